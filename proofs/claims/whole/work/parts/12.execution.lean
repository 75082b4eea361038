abbrev rmX0_begin : Room := { frames := 1, cells := 0, slots := 0, locals := 24 }
set_option maxHeartbeats 4000000 in
set_option maxRecDepth 100000 in
theorem c_X0_begin {l : Launch} {D : va_G} {ad : Nat → Nat} {ca : Nat → ClassId} (fu : Nat) (c_states c_transitions : Int32) (c_timerEvent c_from c_event c_next c_variable c_relation c_number c_actions c_kind c_a c_b : Nat → Int32) (c_present : Int32) (c_now : Int64) (c_emits c_kept c_ignores : Int32) (c_values : Nat → Int32) (c_due : Nat → Int64) (c_outputs c_fired : Nat → Int32) (c_made c_classes c_size c_taken : Int32) (c_stateClass c_finerClass c_usedBits c_offsets c_owners : Nat → Int32) {o : Int32 × Int64 × Int32 × Int32 × Int32 × (Nat → Int32) × (Nat → Int64) × (Nat → Int32)} (hf : X0_begin fu c_present c_now c_emits c_kept c_ignores c_values c_due c_fired = some o) : Cv l yX0_begin wsX0_begin rmX0_begin D (CT ca) (CW ad ca c_states c_transitions c_timerEvent c_from c_event c_next c_variable c_relation c_number c_actions c_kind c_a c_b c_present c_now c_emits c_kept c_ignores c_values c_due c_outputs c_fired c_made c_classes c_size c_taken c_stateClass c_finerClass c_usedBits c_offsets c_owners) [.ref (ad 2)] (CW ad ca c_states c_transitions c_timerEvent c_from c_event c_next c_variable c_relation c_number c_actions c_kind c_a c_b o.1 o.2.1 o.2.2.1 o.2.2.2.1 o.2.2.2.2.1 o.2.2.2.2.2.1 o.2.2.2.2.2.2.1 c_outputs o.2.2.2.2.2.2.2 c_made c_classes c_size c_taken c_stateClass c_finerClass c_usedBits c_offsets c_owners) := by
  intro sz
  refine pw_entry (Qc := fun A => pw_Qv D (CT ca) (CW ad ca c_states c_transitions c_timerEvent c_from c_event c_next c_variable c_relation c_number c_actions c_kind c_a c_b o.1 o.2.1 o.2.2.1 o.2.2.2.1 o.2.2.2.2.1 o.2.2.2.2.2.1 o.2.2.2.2.2.2.1 c_outputs o.2.2.2.2.2.2.2 c_made c_classes c_size c_taken c_stateClass c_finerClass c_usedBits c_offsets c_owners) A) (cc := cX0_begin) (maxL := 1) (ret := none) (by decide) rfl (Nat.le_of_ble_eq_true rfl) ?_ sz
  intro p e s m args below meth c A ls Z H locs hx hb hr hlocks hts hown hml hnm hK hP hD hS hA hl hZ
  have hown : s.vm.findClass RX0 = some m.cls := hown
  have hiX0 : ∀ w ∈ u_ws RX0 TX0 10, w ∈ wsX0_begin := by decide +kernel
  have f15 := hts (.fieldLink RX0 15 "ProtocolMachine$Execution" "now" "J") (by decide +kernel)
  have f19 := hts (.fieldLink RX0 19 "ProtocolMachine$Execution" "emits" "I") (by decide +kernel)
  have f22 := hts (.fieldLink RX0 22 "ProtocolMachine$Execution" "kept" "I") (by decide +kernel)
  have f25 := hts (.fieldLink RX0 25 "ProtocolMachine$Execution" "ignores" "I") (by decide +kernel)
  have f28 := hts (.fieldLink RX0 28 "ProtocolMachine$Execution" "values" "[I") (by decide +kernel)
  have f32 := hts (.fieldLink RX0 32 "ProtocolMachine$Execution" "due" "[J") (by decide +kernel)
  have f39 := hts (.fieldLink RX0 39 "ProtocolMachine$Execution" "fired" "[I") (by decide +kernel)
  have f9 := hts (.fieldLink RX0 9 "ProtocolMachine$Execution" "present" "I") (by decide +kernel)
  have k46 := hts (.constantLong RX0 46 (-1)) (by decide +kernel)
  have hl : lv_has ls 1 [(0, .ref (ad 2))] := hl
  unfold X0_begin at hf
  refine lv_aload_n hx hb dX0_begin_0 rfl (lv_at hl 0 rfl) ?_
  refine lv_iconst (v := (0 : Int32)) hx hb dX0_begin_1 (by decide) ?_
  refine va_put (D := D) (ci := 0) (v := .int (0 : Int32)) (ty := .int) (C := RX0) (T := TX0) (N := 10) hx hb hts hiX0 tyX0 tyX0_ok nmX0 hown hK hP hD hS 2 rfl rfl 1 (by decide) f9 (fun _ h9 => h9) rfl (by decide +kernel) rfl rfl (Nat.le_of_ble_eq_true rfl) dX0_begin_2 (fun H locs hP hD hS => ?_)
  have hP : va_P D vwCl (CW ad ca c_states c_transitions c_timerEvent c_from c_event c_next c_variable c_relation c_number c_actions c_kind c_a c_b (0 : Int32) c_now c_emits c_kept c_ignores c_values c_due c_outputs c_fired c_made c_classes c_size c_taken c_stateClass c_finerClass c_usedBits c_offsets c_owners) H := hP
  have hD : va_D A (CW ad ca c_states c_transitions c_timerEvent c_from c_event c_next c_variable c_relation c_number c_actions c_kind c_a c_b (0 : Int32) c_now c_emits c_kept c_ignores c_values c_due c_outputs c_fired c_made c_classes c_size c_taken c_stateClass c_finerClass c_usedBits c_offsets c_owners) := hD
  refine lv_aload_n hx hb dX0_begin_5 rfl (lv_at hl 0 rfl) ?_
  refine lv_lconst (v := (0 : Int64)) hx hb dX0_begin_6 (by decide) ?_
  refine va_put (D := D) (ci := 0) (v := .long (0 : Int64)) (ty := .long) (C := RX0) (T := TX0) (N := 10) hx hb hts hiX0 tyX0 tyX0_ok nmX0 hown hK hP hD hS 2 rfl rfl 2 (by decide) f15 (fun _ h9 => h9) rfl (by decide +kernel) rfl rfl (Nat.le_of_ble_eq_true rfl) dX0_begin_7 (fun H locs hP hD hS => ?_)
  have hP : va_P D vwCl (CW ad ca c_states c_transitions c_timerEvent c_from c_event c_next c_variable c_relation c_number c_actions c_kind c_a c_b (0 : Int32) (0 : Int64) c_emits c_kept c_ignores c_values c_due c_outputs c_fired c_made c_classes c_size c_taken c_stateClass c_finerClass c_usedBits c_offsets c_owners) H := hP
  have hD : va_D A (CW ad ca c_states c_transitions c_timerEvent c_from c_event c_next c_variable c_relation c_number c_actions c_kind c_a c_b (0 : Int32) (0 : Int64) c_emits c_kept c_ignores c_values c_due c_outputs c_fired c_made c_classes c_size c_taken c_stateClass c_finerClass c_usedBits c_offsets c_owners) := hD
  refine lv_aload_n hx hb dX0_begin_10 rfl (lv_at hl 0 rfl) ?_
  refine lv_iconst (v := (0 : Int32)) hx hb dX0_begin_11 (by decide) ?_
  refine va_put (D := D) (ci := 0) (v := .int (0 : Int32)) (ty := .int) (C := RX0) (T := TX0) (N := 10) hx hb hts hiX0 tyX0 tyX0_ok nmX0 hown hK hP hD hS 2 rfl rfl 3 (by decide) f19 (fun _ h9 => h9) rfl (by decide +kernel) rfl rfl (Nat.le_of_ble_eq_true rfl) dX0_begin_12 (fun H locs hP hD hS => ?_)
  have hP : va_P D vwCl (CW ad ca c_states c_transitions c_timerEvent c_from c_event c_next c_variable c_relation c_number c_actions c_kind c_a c_b (0 : Int32) (0 : Int64) (0 : Int32) c_kept c_ignores c_values c_due c_outputs c_fired c_made c_classes c_size c_taken c_stateClass c_finerClass c_usedBits c_offsets c_owners) H := hP
  have hD : va_D A (CW ad ca c_states c_transitions c_timerEvent c_from c_event c_next c_variable c_relation c_number c_actions c_kind c_a c_b (0 : Int32) (0 : Int64) (0 : Int32) c_kept c_ignores c_values c_due c_outputs c_fired c_made c_classes c_size c_taken c_stateClass c_finerClass c_usedBits c_offsets c_owners) := hD
  refine lv_aload_n hx hb dX0_begin_15 rfl (lv_at hl 0 rfl) ?_
  refine lv_iconst (v := (0 : Int32)) hx hb dX0_begin_16 (by decide) ?_
  refine va_put (D := D) (ci := 0) (v := .int (0 : Int32)) (ty := .int) (C := RX0) (T := TX0) (N := 10) hx hb hts hiX0 tyX0 tyX0_ok nmX0 hown hK hP hD hS 2 rfl rfl 4 (by decide) f22 (fun _ h9 => h9) rfl (by decide +kernel) rfl rfl (Nat.le_of_ble_eq_true rfl) dX0_begin_17 (fun H locs hP hD hS => ?_)
  have hP : va_P D vwCl (CW ad ca c_states c_transitions c_timerEvent c_from c_event c_next c_variable c_relation c_number c_actions c_kind c_a c_b (0 : Int32) (0 : Int64) (0 : Int32) (0 : Int32) c_ignores c_values c_due c_outputs c_fired c_made c_classes c_size c_taken c_stateClass c_finerClass c_usedBits c_offsets c_owners) H := hP
  have hD : va_D A (CW ad ca c_states c_transitions c_timerEvent c_from c_event c_next c_variable c_relation c_number c_actions c_kind c_a c_b (0 : Int32) (0 : Int64) (0 : Int32) (0 : Int32) c_ignores c_values c_due c_outputs c_fired c_made c_classes c_size c_taken c_stateClass c_finerClass c_usedBits c_offsets c_owners) := hD
  refine lv_aload_n hx hb dX0_begin_20 rfl (lv_at hl 0 rfl) ?_
  refine lv_iconst (v := (0 : Int32)) hx hb dX0_begin_21 (by decide) ?_
  refine va_put (D := D) (ci := 0) (v := .int (0 : Int32)) (ty := .int) (C := RX0) (T := TX0) (N := 10) hx hb hts hiX0 tyX0 tyX0_ok nmX0 hown hK hP hD hS 2 rfl rfl 5 (by decide) f25 (fun _ h9 => h9) rfl (by decide +kernel) rfl rfl (Nat.le_of_ble_eq_true rfl) dX0_begin_22 (fun H locs hP hD hS => ?_)
  have hP : va_P D vwCl (CW ad ca c_states c_transitions c_timerEvent c_from c_event c_next c_variable c_relation c_number c_actions c_kind c_a c_b (0 : Int32) (0 : Int64) (0 : Int32) (0 : Int32) (0 : Int32) c_values c_due c_outputs c_fired c_made c_classes c_size c_taken c_stateClass c_finerClass c_usedBits c_offsets c_owners) H := hP
  have hD : va_D A (CW ad ca c_states c_transitions c_timerEvent c_from c_event c_next c_variable c_relation c_number c_actions c_kind c_a c_b (0 : Int32) (0 : Int64) (0 : Int32) (0 : Int32) (0 : Int32) c_values c_due c_outputs c_fired c_made c_classes c_size c_taken c_stateClass c_finerClass c_usedBits c_offsets c_owners) := hD
  refine lv_aload_n hx hb dX0_begin_25 rfl (lv_at hl 0 rfl) ?_
  refine va_get (D := D) (ci := 0) (v := .ref (ad 15)) (C := RX0) (T := TX0) (N := 10) hx hb hts hiX0 hown hK hP 2 rfl rfl 6 (by decide) f28 (fun _ h9 => h9) rfl dX0_begin_26 ?_
  refine lv_iconst (v := (0 : Int32)) hx hb dX0_begin_29 (by decide) ?_
  obtain ⟨x30, hg30, hf⟩ := pr_b hf
  have hKc := hK.sub (tys' := [(ca 15, .int)]) [11] rfl
  refine pw_cSvP (As := [.ref (ad 15), .int (0 : Int32)]) (rest := []) ⟨hx, hb, hml, hown, hts⟩ (c_J7_fill_53178 fu (D := D) 3 (ad 15) (ca 15) c_values (0 : Int32) hg30) (va_cwS 2 hts gX0_begin_J7_fill_53178 rfl rfl rfl (by decide +kernel) ⟨Nat.le_of_ble_eq_true rfl, Nat.le_of_ble_eq_true rfl⟩) hKc hP hD hS hA [15] [0, 1, 2, 3, 4, 5, 6, 7, 8, 9, 10, 11, 12, 13, 14, 16, 17, 18, 19, 20, 21, 22, 23] rfl rfl (by decide) (by decide) (by decide) rfl hl.1 rfl (Nat.le_of_ble_eq_true rfl) dX0_begin_30 ⟨Nat.le_of_ble_eq_true rfl, Nat.le_of_ble_eq_true rfl⟩ (fun H locs hP hD hS => ?_)
  have hP := hP.sub (ws' := (CW ad ca c_states c_transitions c_timerEvent c_from c_event c_next c_variable c_relation c_number c_actions c_kind c_a c_b (0 : Int32) (0 : Int64) (0 : Int32) (0 : Int32) (0 : Int32) x30 c_due c_outputs c_fired c_made c_classes c_size c_taken c_stateClass c_finerClass c_usedBits c_offsets c_owners)) [0, 1, 2, 3, 4, 5, 6, 7, 8, 9, 10, 11, 12, 13, 14, 23, 15, 16, 17, 18, 19, 20, 21, 22] rfl
  have hD := hD.sub (ws' := (CW ad ca c_states c_transitions c_timerEvent c_from c_event c_next c_variable c_relation c_number c_actions c_kind c_a c_b (0 : Int32) (0 : Int64) (0 : Int32) (0 : Int32) (0 : Int32) x30 c_due c_outputs c_fired c_made c_classes c_size c_taken c_stateClass c_finerClass c_usedBits c_offsets c_owners)) [0, 1, 2, 3, 4, 5, 6, 7, 8, 9, 10, 11, 12, 13, 14, 23, 15, 16, 17, 18, 19, 20, 21, 22] (by decide) rfl
  refine lv_aload_n hx hb dX0_begin_33 rfl (lv_at hl 0 rfl) ?_
  refine va_get (D := D) (ci := 0) (v := .ref (ad 16)) (C := RX0) (T := TX0) (N := 10) hx hb hts hiX0 hown hK hP 2 rfl rfl 7 (by decide) f32 (fun _ h9 => h9) rfl dX0_begin_34 ?_
  refine lv_ldc2 (v := (-1 : Int64)) hx hb hown k46 dX0_begin_37 ?_
  obtain ⟨x40, hg40, hf⟩ := pr_b hf
  have hKc := hK.sub (tys' := [(ca 16, .long)]) [12] rfl
  refine pw_cSvP (As := [.ref (ad 16), .long (-1 : Int64)]) (rest := []) ⟨hx, hb, hml, hown, hts⟩ (c_J7_fill_d0a16 fu (D := D) 4 (ad 16) (ca 16) c_due (-1 : Int64) hg40) (va_cwS 2 hts gX0_begin_J7_fill_d0a16 rfl rfl rfl (by decide +kernel) ⟨Nat.le_of_ble_eq_true rfl, Nat.le_of_ble_eq_true rfl⟩) hKc hP hD hS hA [16] [0, 1, 2, 3, 4, 5, 6, 7, 8, 9, 10, 11, 12, 13, 14, 15, 17, 18, 19, 20, 21, 22, 23] rfl rfl (by decide) (by decide) (by decide) rfl hl.1 rfl (Nat.le_of_ble_eq_true rfl) dX0_begin_40 ⟨Nat.le_of_ble_eq_true rfl, Nat.le_of_ble_eq_true rfl⟩ (fun H locs hP hD hS => ?_)
  have hP := hP.sub (ws' := (CW ad ca c_states c_transitions c_timerEvent c_from c_event c_next c_variable c_relation c_number c_actions c_kind c_a c_b (0 : Int32) (0 : Int64) (0 : Int32) (0 : Int32) (0 : Int32) x30 x40 c_outputs c_fired c_made c_classes c_size c_taken c_stateClass c_finerClass c_usedBits c_offsets c_owners)) [0, 1, 2, 3, 4, 5, 6, 7, 8, 9, 10, 11, 12, 13, 14, 15, 23, 16, 17, 18, 19, 20, 21, 22] rfl
  have hD := hD.sub (ws' := (CW ad ca c_states c_transitions c_timerEvent c_from c_event c_next c_variable c_relation c_number c_actions c_kind c_a c_b (0 : Int32) (0 : Int64) (0 : Int32) (0 : Int32) (0 : Int32) x30 x40 c_outputs c_fired c_made c_classes c_size c_taken c_stateClass c_finerClass c_usedBits c_offsets c_owners)) [0, 1, 2, 3, 4, 5, 6, 7, 8, 9, 10, 11, 12, 13, 14, 15, 23, 16, 17, 18, 19, 20, 21, 22] (by decide) rfl
  refine lv_aload_n hx hb dX0_begin_43 rfl (lv_at hl 0 rfl) ?_
  refine va_get (D := D) (ci := 0) (v := .ref (ad 18)) (C := RX0) (T := TX0) (N := 10) hx hb hts hiX0 hown hK hP 2 rfl rfl 9 (by decide) f39 (fun _ h9 => h9) rfl dX0_begin_44 ?_
  refine lv_iconst (v := (0 : Int32)) hx hb dX0_begin_47 (by decide) ?_
  obtain ⟨x48, hg48, hf⟩ := pr_b hf
  have hKc := hK.sub (tys' := [(ca 18, .int)]) [14] rfl
  refine pw_cSvP (As := [.ref (ad 18), .int (0 : Int32)]) (rest := []) ⟨hx, hb, hml, hown, hts⟩ (c_J7_fill_53178 fu (D := D) 40 (ad 18) (ca 18) c_fired (0 : Int32) hg48) (va_cwS 2 hts gX0_begin_J7_fill_53178 rfl rfl rfl (by decide +kernel) ⟨Nat.le_of_ble_eq_true rfl, Nat.le_of_ble_eq_true rfl⟩) hKc hP hD hS hA [18] [0, 1, 2, 3, 4, 5, 6, 7, 8, 9, 10, 11, 12, 13, 14, 15, 16, 17, 19, 20, 21, 22, 23] rfl rfl (by decide) (by decide) (by decide) rfl hl.1 rfl (Nat.le_of_ble_eq_true rfl) dX0_begin_48 ⟨Nat.le_of_ble_eq_true rfl, Nat.le_of_ble_eq_true rfl⟩ (fun H locs hP hD hS => ?_)
  have hP := hP.sub (ws' := (CW ad ca c_states c_transitions c_timerEvent c_from c_event c_next c_variable c_relation c_number c_actions c_kind c_a c_b (0 : Int32) (0 : Int64) (0 : Int32) (0 : Int32) (0 : Int32) x30 x40 c_outputs x48 c_made c_classes c_size c_taken c_stateClass c_finerClass c_usedBits c_offsets c_owners)) [0, 1, 2, 3, 4, 5, 6, 7, 8, 9, 10, 11, 12, 13, 14, 15, 16, 17, 23, 18, 19, 20, 21, 22] rfl
  have hD := hD.sub (ws' := (CW ad ca c_states c_transitions c_timerEvent c_from c_event c_next c_variable c_relation c_number c_actions c_kind c_a c_b (0 : Int32) (0 : Int64) (0 : Int32) (0 : Int32) (0 : Int32) x30 x40 c_outputs x48 c_made c_classes c_size c_taken c_stateClass c_finerClass c_usedBits c_offsets c_owners)) [0, 1, 2, 3, 4, 5, 6, 7, 8, 9, 10, 11, 12, 13, 14, 15, 16, 17, 23, 18, 19, 20, 21, 22] (by decide) rfl
  obtain rfl := Option.some.inj hf
  subst hZ
  exact pw_rv hx hb hr hlocks hK hP hD hS (Nat.le_of_ble_eq_true rfl) (Nat.le_of_ble_eq_true rfl) dX0_begin_51
abbrev rmX0_ticksLeft : Room := { frames := 0, cells := 0, slots := 0, locals := 0 }
set_option maxHeartbeats 4000000 in
set_option maxRecDepth 100000 in
theorem c_X0_ticksLeft {l : Launch} {D : va_G} {ad : Nat → Nat} {ca : Nat → ClassId} (c_states c_transitions : Int32) (c_timerEvent c_from c_event c_next c_variable c_relation c_number c_actions c_kind c_a c_b : Nat → Int32) (c_present : Int32) (c_now : Int64) (c_emits c_kept c_ignores : Int32) (c_values : Nat → Int32) (c_due : Nat → Int64) (c_outputs c_fired : Nat → Int32) (c_made c_classes c_size c_taken : Int32) (c_stateClass c_finerClass c_usedBits c_offsets c_owners : Nat → Int32) (v1 : Int32) {o : Int32} (hf : X0_ticksLeft c_now c_due v1 = some o) : Ci l yX0_ticksLeft wsX0_ticksLeft rmX0_ticksLeft D (CT ca) (CW ad ca c_states c_transitions c_timerEvent c_from c_event c_next c_variable c_relation c_number c_actions c_kind c_a c_b c_present c_now c_emits c_kept c_ignores c_values c_due c_outputs c_fired c_made c_classes c_size c_taken c_stateClass c_finerClass c_usedBits c_offsets c_owners) [.ref (ad 2), .int v1] o (CW ad ca c_states c_transitions c_timerEvent c_from c_event c_next c_variable c_relation c_number c_actions c_kind c_a c_b c_present c_now c_emits c_kept c_ignores c_values c_due c_outputs c_fired c_made c_classes c_size c_taken c_stateClass c_finerClass c_usedBits c_offsets c_owners) := by
  intro sz
  refine pw_entry (Qc := fun A => pw_Qi D (CT ca) (CW ad ca c_states c_transitions c_timerEvent c_from c_event c_next c_variable c_relation c_number c_actions c_kind c_a c_b c_present c_now c_emits c_kept c_ignores c_values c_due c_outputs c_fired c_made c_classes c_size c_taken c_stateClass c_finerClass c_usedBits c_offsets c_owners) A o) (cc := cX0_ticksLeft) (maxL := 2) (ret := (some .int)) (by decide) rfl (Nat.le_of_ble_eq_true rfl) ?_ sz
  intro p e s m args below meth c A ls Z H locs hx hb hr hlocks hts hown hml hnm hK hP hD hS hA hl hZ
  have hown : s.vm.findClass RX0 = some m.cls := hown
  have hiX0 : ∀ w ∈ u_ws RX0 TX0 10, w ∈ wsX0_ticksLeft := by decide +kernel
  have f15 := hts (.fieldLink RX0 15 "ProtocolMachine$Execution" "now" "J") (by decide +kernel)
  have f32 := hts (.fieldLink RX0 32 "ProtocolMachine$Execution" "due" "[J") (by decide +kernel)
  have k46 := hts (.constantLong RX0 46 (-1)) (by decide +kernel)
  have hl : lv_has ls 2 [(0, .ref (ad 2)), (1, .int v1)] := hl
  unfold X0_ticksLeft at hf
  refine lv_aload_n hx hb dX0_ticksLeft_0 rfl (lv_at hl 0 rfl) ?_
  refine va_get (D := D) (ci := 0) (v := .ref (ad 16)) (C := RX0) (T := TX0) (N := 10) hx hb hts hiX0 hown hK hP 2 rfl rfl 7 (by decide) f32 (fun _ h9 => h9) rfl dX0_ticksLeft_1 ?_
  refine lv_iload_n hx hb dX0_ticksLeft_4 rfl (lv_at hl 1 rfl) ?_
  obtain ⟨hi5, hf⟩ := pr_in hf
  refine va_lald hx hb hK hP 16 12 rfl rfl hi5 dX0_ticksLeft_5 ?_
  refine lv_ldc2 (v := (-1 : Int64)) hx hb hown k46 dX0_ticksLeft_6 ?_
  refine W.lcmp hx hb dX0_ticksLeft_9 ?_
  refine lv_if_ne (tgt := 17) hx hb dX0_ticksLeft_10 (by decide) (fun hc => ?_) (fun hc => ?_)
  · have hf := pr_f hf hc
    refine lv_aload_n hx hb dX0_ticksLeft_17 rfl (lv_at hl 0 rfl) ?_
    refine va_get (D := D) (ci := 0) (v := .ref (ad 16)) (C := RX0) (T := TX0) (N := 10) hx hb hts hiX0 hown hK hP 2 rfl rfl 7 (by decide) f32 (fun _ h9 => h9) rfl dX0_ticksLeft_18 ?_
    refine lv_iload_n hx hb dX0_ticksLeft_21 rfl (lv_at hl 1 rfl) ?_
    refine va_lald hx hb hK hP 16 12 rfl rfl hi5 dX0_ticksLeft_22 ?_
    refine lv_aload_n hx hb dX0_ticksLeft_23 rfl (lv_at hl 0 rfl) ?_
    refine va_get (D := D) (ci := 0) (v := .long c_now) (C := RX0) (T := TX0) (N := 10) hx hb hts hiX0 hown hK hP 2 rfl rfl 2 (by decide) f15 (fun _ h9 => h9) rfl dX0_ticksLeft_24 ?_
    refine lv_lsub hx hb dX0_ticksLeft_27 ?_
    refine lv_l2i (v := ((c_due v1.toNatClampNeg) - c_now).toInt32) hx hb dX0_ticksLeft_28 rfl ?_
    obtain rfl := Option.some.inj hf
    subst hZ
    exact pw_ri hx hb hr hlocks hK hP hD hS (Nat.le_of_ble_eq_true rfl) (Nat.le_of_ble_eq_true rfl) dX0_ticksLeft_29
  · have hf := pr_t hf hc
    refine lv_iconst (v := (-1 : Int32)) hx hb dX0_ticksLeft_13 (by decide) ?_
    refine lv_goto (tgt := 29) hx hb dX0_ticksLeft_14 (by decide) ?_
    obtain rfl := Option.some.inj hf
    subst hZ
    exact pw_ri hx hb hr hlocks hK hP hD hS (Nat.le_of_ble_eq_true rfl) (Nat.le_of_ble_eq_true rfl) dX0_ticksLeft_29
abbrev rmX0_isTrue : Room := { frames := 1, cells := 0, slots := 0, locals := 21 }
set_option maxHeartbeats 4000000 in
set_option maxRecDepth 100000 in
theorem c_X0_isTrue {l : Launch} {D : va_G} {ad : Nat → Nat} {ca : Nat → ClassId} (c_states c_transitions : Int32) (c_timerEvent c_from c_event c_next c_variable c_relation c_number c_actions c_kind c_a c_b : Nat → Int32) (c_present : Int32) (c_now : Int64) (c_emits c_kept c_ignores : Int32) (c_values : Nat → Int32) (c_due : Nat → Int64) (c_outputs c_fired : Nat → Int32) (c_made c_classes c_size c_taken : Int32) (c_stateClass c_finerClass c_usedBits c_offsets c_owners : Nat → Int32) (v1 : Int32) {o : Int32} (hf : X0_isTrue c_variable c_relation c_number c_values v1 = some o) : Ci l yX0_isTrue wsX0_isTrue rmX0_isTrue D (CT ca) (CW ad ca c_states c_transitions c_timerEvent c_from c_event c_next c_variable c_relation c_number c_actions c_kind c_a c_b c_present c_now c_emits c_kept c_ignores c_values c_due c_outputs c_fired c_made c_classes c_size c_taken c_stateClass c_finerClass c_usedBits c_offsets c_owners) [.ref (ad 2), .int v1] o (CW ad ca c_states c_transitions c_timerEvent c_from c_event c_next c_variable c_relation c_number c_actions c_kind c_a c_b c_present c_now c_emits c_kept c_ignores c_values c_due c_outputs c_fired c_made c_classes c_size c_taken c_stateClass c_finerClass c_usedBits c_offsets c_owners) := by
  intro sz
  refine pw_entry (Qc := fun A => pw_Qi D (CT ca) (CW ad ca c_states c_transitions c_timerEvent c_from c_event c_next c_variable c_relation c_number c_actions c_kind c_a c_b c_present c_now c_emits c_kept c_ignores c_values c_due c_outputs c_fired c_made c_classes c_size c_taken c_stateClass c_finerClass c_usedBits c_offsets c_owners) A o) (cc := cX0_isTrue) (maxL := 3) (ret := (some .boolean)) (by decide) rfl (Nat.le_of_ble_eq_true rfl) ?_ sz
  intro p e s m args below meth c A ls Z H locs hx hb hr hlocks hts hown hml hnm hK hP hD hS hA hl hZ
  have hown : s.vm.findClass RX0 = some m.cls := hown
  have hiX0 : ∀ w ∈ u_ws RX0 TX0 10, w ∈ wsX0_isTrue := by decide +kernel
  have hiX1 : ∀ w ∈ u_ws RX1 TX1 13, w ∈ wsX0_isTrue := by decide +kernel
  have f28 := hts (.fieldLink RX0 28 "ProtocolMachine$Execution" "values" "[I") (by decide +kernel)
  have f42 := hts (.fieldLink RX0 42 "ProtocolMachine$Execution" "protocol" "LProtocolMachine$Protocol;") (by decide +kernel)
  have f81 := hts (.fieldLink RX0 81 "ProtocolMachine$Protocol" "variable" "[I") (by decide +kernel)
  have hl : lv_has ls 3 [(0, .ref (ad 2)), (1, .int v1)] := hl
  unfold X0_isTrue at hf
  refine lv_aload_n hx hb dX0_isTrue_0 rfl (lv_at hl 0 rfl) ?_
  refine va_get (D := D) (ci := 0) (v := .ref (ad 1)) (C := RX0) (T := TX0) (N := 10) hx hb hts hiX0 hown hK hP 2 rfl rfl 0 (by decide) f42 (fun _ h9 => h9) rfl dX0_isTrue_1 ?_
  refine va_get (D := D) (ci := 1) (v := .ref (ad 8)) (C := RX1) (T := TX1) (N := 13) hx hb hts hiX1 hown hK hP 1 rfl rfl 6 (by decide) f81 (fun _ h9 => h9) rfl dX0_isTrue_4 ?_
  refine lv_iload_n hx hb dX0_isTrue_7 rfl (lv_at hl 1 rfl) ?_
  obtain ⟨hi8, hf⟩ := pr_in hf
  refine va_iald hx hb hK hP 8 4 rfl rfl hi8 dX0_isTrue_8 ?_
  refine lv_istore_n (lv' := [(2, .int (c_variable v1.toNatClampNeg)), (0, .ref (ad 2)), (1, .int v1)]) hx hb dX0_isTrue_9 rfl hl (by decide) rfl (fun ls hl => ?_)
  refine lv_iload_n hx hb dX0_isTrue_10 rfl (lv_at hl 0 rfl) ?_
  refine lv_iconst (v := (-1 : Int32)) hx hb dX0_isTrue_11 (by decide) ?_
  refine lv_icmp_ne (tgt := 17) hx hb dX0_isTrue_12 (by decide) (fun hc => ?_) (fun hc => ?_)
  · have hf := pr_f hf hc
    refine lv_aload_n hx hb dX0_isTrue_17 rfl (lv_at hl 1 rfl) ?_
    refine va_get (D := D) (ci := 0) (v := .ref (ad 1)) (C := RX0) (T := TX0) (N := 10) hx hb hts hiX0 hown hK hP 2 rfl rfl 0 (by decide) f42 (fun _ h9 => h9) rfl dX0_isTrue_18 ?_
    refine lv_iload_n hx hb dX0_isTrue_21 rfl (lv_at hl 2 rfl) ?_
    obtain ⟨x22, hg22, hf⟩ := pr_b hf
    refine pw_cViW (b := ad 1) (As := [.int v1]) (rest := []) ⟨hx, hb, hml, hown, hts⟩ (c_X1_lowest (D := D) c_states c_transitions c_timerEvent c_from c_event c_next c_variable c_relation c_number c_actions c_kind c_a c_b c_present c_now c_emits c_kept c_ignores c_values c_due c_outputs c_fired c_made c_classes c_size c_taken c_stateClass c_finerClass c_usedBits c_offsets c_owners v1 hg22) (cwV 1 hts gX0_isTrue_X1_lowest rfl rfl rfl (by decide +kernel) ⟨Nat.le_of_ble_eq_true rfl, Nat.le_of_ble_eq_true rfl⟩) 1 1 rfl rfl hK hP hD hS hA rfl hl.1 rfl (Nat.le_of_ble_eq_true rfl) dX0_isTrue_22 ⟨Nat.le_of_ble_eq_true rfl, Nat.le_of_ble_eq_true rfl⟩ (fun H locs hP hD hS => ?_)
    refine lv_aload_n hx hb dX0_isTrue_25 rfl (lv_at hl 1 rfl) ?_
    refine va_get (D := D) (ci := 0) (v := .ref (ad 15)) (C := RX0) (T := TX0) (N := 10) hx hb hts hiX0 hown hK hP 2 rfl rfl 6 (by decide) f28 (fun _ h9 => h9) rfl dX0_isTrue_26 ?_
    refine lv_iload_n hx hb dX0_isTrue_29 rfl (lv_at hl 0 rfl) ?_
    obtain ⟨hi30, hf⟩ := pr_in hf
    refine va_iald hx hb hK hP 15 11 rfl rfl hi30 dX0_isTrue_30 ?_
    refine lv_icmp_gt (tgt := 55) hx hb dX0_isTrue_31 (by decide) (fun hc => ?_) (fun hc => ?_)
    · have hf := pr_t hf hc
      refine lv_iconst (v := (0 : Int32)) hx hb dX0_isTrue_55 (by decide) ?_
      obtain rfl := Option.some.inj hf
      subst hZ
      exact pw_rz hx hb hr hlocks (Or.inl rfl) hK hP hD hS (Nat.le_of_ble_eq_true rfl) (Nat.le_of_ble_eq_true rfl) dX0_isTrue_56
    · have hf := pr_f hf hc
      refine lv_aload_n hx hb dX0_isTrue_34 rfl (lv_at hl 1 rfl) ?_
      refine va_get (D := D) (ci := 0) (v := .ref (ad 15)) (C := RX0) (T := TX0) (N := 10) hx hb hts hiX0 hown hK hP 2 rfl rfl 6 (by decide) f28 (fun _ h9 => h9) rfl dX0_isTrue_35 ?_
      refine lv_iload_n hx hb dX0_isTrue_38 rfl (lv_at hl 0 rfl) ?_
      refine va_iald hx hb hK hP 15 11 rfl rfl hi30 dX0_isTrue_39 ?_
      refine lv_aload_n hx hb dX0_isTrue_40 rfl (lv_at hl 1 rfl) ?_
      refine va_get (D := D) (ci := 0) (v := .ref (ad 1)) (C := RX0) (T := TX0) (N := 10) hx hb hts hiX0 hown hK hP 2 rfl rfl 0 (by decide) f42 (fun _ h9 => h9) rfl dX0_isTrue_41 ?_
      refine lv_iload_n hx hb dX0_isTrue_44 rfl (lv_at hl 2 rfl) ?_
      obtain ⟨x45, hg45, hf⟩ := pr_b hf
      refine pw_cViW (b := ad 1) (As := [.int v1]) (rest := [.int (c_values (c_variable v1.toNatClampNeg).toNatClampNeg)]) ⟨hx, hb, hml, hown, hts⟩ (c_X1_highest (D := D) c_states c_transitions c_timerEvent c_from c_event c_next c_variable c_relation c_number c_actions c_kind c_a c_b c_present c_now c_emits c_kept c_ignores c_values c_due c_outputs c_fired c_made c_classes c_size c_taken c_stateClass c_finerClass c_usedBits c_offsets c_owners v1 hg45) (cwV 1 hts gX0_isTrue_X1_highest rfl rfl rfl (by decide +kernel) ⟨Nat.le_of_ble_eq_true rfl, Nat.le_of_ble_eq_true rfl⟩) 1 1 rfl rfl hK hP hD hS hA rfl hl.1 rfl (Nat.le_of_ble_eq_true rfl) dX0_isTrue_45 ⟨Nat.le_of_ble_eq_true rfl, Nat.le_of_ble_eq_true rfl⟩ (fun H locs hP hD hS => ?_)
      refine lv_icmp_gt (tgt := 55) hx hb dX0_isTrue_48 (by decide) (fun hc => ?_) (fun hc => ?_)
      · have hf := pr_t hf hc
        refine lv_iconst (v := (0 : Int32)) hx hb dX0_isTrue_55 (by decide) ?_
        obtain rfl := Option.some.inj hf
        subst hZ
        exact pw_rz hx hb hr hlocks (Or.inl rfl) hK hP hD hS (Nat.le_of_ble_eq_true rfl) (Nat.le_of_ble_eq_true rfl) dX0_isTrue_56
      · have hf := pr_f hf hc
        refine lv_iconst (v := (1 : Int32)) hx hb dX0_isTrue_51 (by decide) ?_
        refine lv_goto (tgt := 56) hx hb dX0_isTrue_52 (by decide) ?_
        obtain rfl := Option.some.inj hf
        subst hZ
        exact pw_rz hx hb hr hlocks (Or.inr rfl) hK hP hD hS (Nat.le_of_ble_eq_true rfl) (Nat.le_of_ble_eq_true rfl) dX0_isTrue_56
  · have hf := pr_t hf hc
    refine lv_iconst (v := (1 : Int32)) hx hb dX0_isTrue_15 (by decide) ?_
    obtain rfl := Option.some.inj hf
    subst hZ
    exact pw_rz hx hb hr hlocks (Or.inr rfl) hK hP hD hS (Nat.le_of_ble_eq_true rfl) (Nat.le_of_ble_eq_true rfl) dX0_isTrue_16
abbrev rmX0_firstTrue : Room := { frames := 2, cells := 0, slots := 0, locals := 43 }
set_option maxHeartbeats 4000000 in
set_option maxRecDepth 100000 in
theorem c_X0_firstTrue {l : Launch} {D : va_G} {ad : Nat → Nat} {ca : Nat → ClassId} (fu : Nat) (c_states c_transitions : Int32) (c_timerEvent c_from c_event c_next c_variable c_relation c_number c_actions c_kind c_a c_b : Nat → Int32) (c_present : Int32) (c_now : Int64) (c_emits c_kept c_ignores : Int32) (c_values : Nat → Int32) (c_due : Nat → Int64) (c_outputs c_fired : Nat → Int32) (c_made c_classes c_size c_taken : Int32) (c_stateClass c_finerClass c_usedBits c_offsets c_owners : Nat → Int32) (v1 : Int32) {o : Int32} (hf : X0_firstTrue fu c_transitions c_from c_event c_variable c_relation c_number c_present c_values v1 = some o) : Ci l yX0_firstTrue wsX0_firstTrue rmX0_firstTrue D (CT ca) (CW ad ca c_states c_transitions c_timerEvent c_from c_event c_next c_variable c_relation c_number c_actions c_kind c_a c_b c_present c_now c_emits c_kept c_ignores c_values c_due c_outputs c_fired c_made c_classes c_size c_taken c_stateClass c_finerClass c_usedBits c_offsets c_owners) [.ref (ad 2), .int v1] o (CW ad ca c_states c_transitions c_timerEvent c_from c_event c_next c_variable c_relation c_number c_actions c_kind c_a c_b c_present c_now c_emits c_kept c_ignores c_values c_due c_outputs c_fired c_made c_classes c_size c_taken c_stateClass c_finerClass c_usedBits c_offsets c_owners) := by
  intro sz
  refine pw_entry (Qc := fun A => pw_Qi D (CT ca) (CW ad ca c_states c_transitions c_timerEvent c_from c_event c_next c_variable c_relation c_number c_actions c_kind c_a c_b c_present c_now c_emits c_kept c_ignores c_values c_due c_outputs c_fired c_made c_classes c_size c_taken c_stateClass c_finerClass c_usedBits c_offsets c_owners) A o) (cc := cX0_firstTrue) (maxL := 4) (ret := (some .int)) (by decide) rfl (Nat.le_of_ble_eq_true rfl) ?_ sz
  intro p e s m args below meth c A ls Z H locs hx hb hr hlocks hts hown hml hnm hK hP hD hS hA hl hZ
  have hown : s.vm.findClass RX0 = some m.cls := hown
  have hiX0 : ∀ w ∈ u_ws RX0 TX0 10, w ∈ wsX0_firstTrue := by decide +kernel
  have f42 := hts (.fieldLink RX0 42 "ProtocolMachine$Execution" "protocol" "LProtocolMachine$Protocol;") (by decide +kernel)
  have f9 := hts (.fieldLink RX0 9 "ProtocolMachine$Execution" "present" "I") (by decide +kernel)
  have hl : lv_has ls 4 [(0, .ref (ad 2)), (1, .int v1)] := hl
  have L4 : ∀ n4 : Nat, ∀ (v2 v3 : Int32) (H : Heap) (locs : List Loc) (ls : Array Slot), va_P D vwCl (CW ad ca c_states c_transitions c_timerEvent c_from c_event c_next c_variable c_relation c_number c_actions c_kind c_a c_b c_present c_now c_emits c_kept c_ignores c_values c_due c_outputs c_fired c_made c_classes c_size c_taken c_stateClass c_finerClass c_usedBits c_offsets c_owners) H → va_D A (CW ad ca c_states c_transitions c_timerEvent c_from c_event c_next c_variable c_relation c_number c_actions c_kind c_a c_b c_present c_now c_emits c_kept c_ignores c_values c_due c_outputs c_fired c_made c_classes c_size c_taken c_stateClass c_finerClass c_usedBits c_offsets c_owners) → va_S A s.heap H locs → lv_has ls 4 [(0, .ref (ad 2)), (1, .int v1), (2, .int v2), (3, .int v3)] → X0_firstTrue_L4 fu c_transitions c_from c_event c_variable c_relation c_number c_present c_values v1 n4 v2 v3 = some o → W p l e rmX0_firstTrue s m args below meth c H locs 0 0 Z (F0 m 4 ls []) := by
    intro n4
    induction n4 with
    | zero =>
      intro v2 v3 H locs ls hP hD hS hl hf
      exact pr_n hf
    | succ n4 ih4 =>
      intro v2 v3 H locs ls hP hD hS hl hf
      replace hf : X0_firstTrue_B4 fu c_transitions c_from c_event c_variable c_relation c_number c_present c_values v1 (X0_firstTrue_L4 fu c_transitions c_from c_event c_variable c_relation c_number c_present c_values v1  n4) v2 v3 = some o := hf
      unfold X0_firstTrue_B4 at hf
      refine lv_iload_n hx hb dX0_firstTrue_4 rfl (lv_at hl 3 rfl) ?_
      refine lv_bipush (v := (40 : Int32)) hx hb dX0_firstTrue_5 (by decide) ?_
      refine lv_icmp_ge (tgt := 45) hx hb dX0_firstTrue_7 (by decide) (fun hc => ?_) (fun hc => ?_)
      · have hf := pr_t hf hc
        refine lv_iconst (v := (-1 : Int32)) hx hb dX0_firstTrue_45 (by decide) ?_
        obtain rfl := Option.some.inj hf
        subst hZ
        exact pw_ri hx hb hr hlocks hK hP hD hS (Nat.le_of_ble_eq_true rfl) (Nat.le_of_ble_eq_true rfl) dX0_firstTrue_46
      · have hf := pr_f hf hc
        refine lv_aload_n hx hb dX0_firstTrue_10 rfl (lv_at hl 0 rfl) ?_
        refine va_get (D := D) (ci := 0) (v := .ref (ad 1)) (C := RX0) (T := TX0) (N := 10) hx hb hts hiX0 hown hK hP 2 rfl rfl 0 (by decide) f42 (fun _ h9 => h9) rfl dX0_firstTrue_11 ?_
        refine lv_iload_n hx hb dX0_firstTrue_14 rfl (lv_at hl 2 rfl) ?_
        refine lv_aload_n hx hb dX0_firstTrue_15 rfl (lv_at hl 0 rfl) ?_
        refine va_get (D := D) (ci := 0) (v := .int c_present) (C := RX0) (T := TX0) (N := 10) hx hb hts hiX0 hown hK hP 2 rfl rfl 1 (by decide) f9 (fun _ h9 => h9) rfl dX0_firstTrue_16 ?_
        refine lv_iload_n hx hb dX0_firstTrue_19 rfl (lv_at hl 1 rfl) ?_
        obtain ⟨x20, hg20, hf⟩ := pr_b hf
        refine pw_cViW (b := ad 1) (As := [.int v2, .int c_present, .int v1]) (rest := []) ⟨hx, hb, hml, hown, hts⟩ (c_X1_firstBehind fu (D := D) c_states c_transitions c_timerEvent c_from c_event c_next c_variable c_relation c_number c_actions c_kind c_a c_b c_present c_now c_emits c_kept c_ignores c_values c_due c_outputs c_fired c_made c_classes c_size c_taken c_stateClass c_finerClass c_usedBits c_offsets c_owners v2 c_present v1 hg20) (cwV 3 hts gX0_firstTrue_X1_firstBehind rfl rfl rfl (by decide +kernel) ⟨Nat.le_of_ble_eq_true rfl, Nat.le_of_ble_eq_true rfl⟩) 1 1 rfl rfl hK hP hD hS hA rfl hl.1 rfl (Nat.le_of_ble_eq_true rfl) dX0_firstTrue_20 ⟨Nat.le_of_ble_eq_true rfl, Nat.le_of_ble_eq_true rfl⟩ (fun H locs hP hD hS => ?_)
        refine lv_istore_n (lv' := [(2, .int x20), (0, .ref (ad 2)), (1, .int v1), (3, .int v3)]) hx hb dX0_firstTrue_23 rfl hl (by decide) rfl (fun ls hl => ?_)
        refine lv_iload_n hx hb dX0_firstTrue_24 rfl (lv_at hl 0 rfl) ?_
        refine lv_iconst (v := (-1 : Int32)) hx hb dX0_firstTrue_25 (by decide) ?_
        refine lv_icmp_eq (tgt := 37) hx hb dX0_firstTrue_26 (by decide) (fun hc => ?_) (fun hc => ?_)
        · have hf := pr_t hf hc
          refine lv_iload_n hx hb dX0_firstTrue_37 rfl (lv_at hl 0 rfl) ?_
          obtain rfl := Option.some.inj hf
          subst hZ
          exact pw_ri hx hb hr hlocks hK hP hD hS (Nat.le_of_ble_eq_true rfl) (Nat.le_of_ble_eq_true rfl) dX0_firstTrue_38
        · have hf := pr_f hf hc
          refine lv_aload_n hx hb dX0_firstTrue_29 rfl (lv_at hl 1 rfl) ?_
          refine lv_iload_n hx hb dX0_firstTrue_30 rfl (lv_at hl 0 rfl) ?_
          obtain ⟨x31, hg31, hf⟩ := pr_b hf
          refine pw_cViW (b := ad 2) (As := [.int x20]) (rest := []) ⟨hx, hb, hml, hown, hts⟩ (c_X0_isTrue (D := D) c_states c_transitions c_timerEvent c_from c_event c_next c_variable c_relation c_number c_actions c_kind c_a c_b c_present c_now c_emits c_kept c_ignores c_values c_due c_outputs c_fired c_made c_classes c_size c_taken c_stateClass c_finerClass c_usedBits c_offsets c_owners x20 hg31) (cwV 1 hts gX0_firstTrue_X0_isTrue rfl rfl rfl (by decide +kernel) ⟨Nat.le_of_ble_eq_true rfl, Nat.le_of_ble_eq_true rfl⟩) 2 0 rfl rfl hK hP hD hS hA rfl hl.1 rfl (Nat.le_of_ble_eq_true rfl) dX0_firstTrue_31 ⟨Nat.le_of_ble_eq_true rfl, Nat.le_of_ble_eq_true rfl⟩ (fun H locs hP hD hS => ?_)
          refine lv_if_eq (tgt := 39) hx hb dX0_firstTrue_34 (by decide) (fun hc => ?_) (fun hc => ?_)
          · have hf := pr_t hf hc
            refine lv_iinc (v := (v3 + (1 : Int32))) (lv' := [(3, .int (v3 + (1 : Int32))), (2, .int x20), (0, .ref (ad 2)), (1, .int v1)]) hx hb dX0_firstTrue_39 hl (k := 3) rfl rfl (by decide) rfl (fun ls hl => ?_)
            refine lv_goto (tgt := 4) hx hb dX0_firstTrue_42 (by decide) ?_
            exact ih4 x20 (v3 + (1 : Int32)) H locs ls hP hD hS (lv_sub hl [2, 3, 1, 0] rfl) hf
          · have hf := pr_f hf hc
            refine lv_iload_n hx hb dX0_firstTrue_37 rfl (lv_at hl 0 rfl) ?_
            obtain rfl := Option.some.inj hf
            subst hZ
            exact pw_ri hx hb hr hlocks hK hP hD hS (Nat.le_of_ble_eq_true rfl) (Nat.le_of_ble_eq_true rfl) dX0_firstTrue_38
  unfold X0_firstTrue at hf
  refine lv_iconst (v := (-1 : Int32)) hx hb dX0_firstTrue_0 (by decide) ?_
  refine lv_istore_n (lv' := [(2, .int (-1 : Int32)), (0, .ref (ad 2)), (1, .int v1)]) hx hb dX0_firstTrue_1 rfl hl (by decide) rfl (fun ls hl => ?_)
  refine lv_iconst (v := (0 : Int32)) hx hb dX0_firstTrue_2 (by decide) ?_
  refine lv_istore_n (lv' := [(3, .int (0 : Int32)), (2, .int (-1 : Int32)), (0, .ref (ad 2)), (1, .int v1)]) hx hb dX0_firstTrue_3 rfl hl (by decide) rfl (fun ls hl => ?_)
  exact L4 fu (-1 : Int32) (0 : Int32) H locs ls hP hD hS (lv_sub hl [2, 3, 1, 0] rfl) hf
abbrev rmX0_emit : Room := { frames := 0, cells := 0, slots := 0, locals := 0 }
set_option maxHeartbeats 4000000 in
set_option maxRecDepth 100000 in
theorem c_X0_emit {l : Launch} {D : va_G} {ad : Nat → Nat} {ca : Nat → ClassId} (c_states c_transitions : Int32) (c_timerEvent c_from c_event c_next c_variable c_relation c_number c_actions c_kind c_a c_b : Nat → Int32) (c_present : Int32) (c_now : Int64) (c_emits c_kept c_ignores : Int32) (c_values : Nat → Int32) (c_due : Nat → Int64) (c_outputs c_fired : Nat → Int32) (c_made c_classes c_size c_taken : Int32) (c_stateClass c_finerClass c_usedBits c_offsets c_owners : Nat → Int32) (v1 : Int32) {o : Int32 × Int32 × (Nat → Int32)} (hf : X0_emit c_emits c_kept c_outputs v1 = some o) : Cv l yX0_emit wsX0_emit rmX0_emit D (CT ca) (CW ad ca c_states c_transitions c_timerEvent c_from c_event c_next c_variable c_relation c_number c_actions c_kind c_a c_b c_present c_now c_emits c_kept c_ignores c_values c_due c_outputs c_fired c_made c_classes c_size c_taken c_stateClass c_finerClass c_usedBits c_offsets c_owners) [.ref (ad 2), .int v1] (CW ad ca c_states c_transitions c_timerEvent c_from c_event c_next c_variable c_relation c_number c_actions c_kind c_a c_b c_present c_now o.1 o.2.1 c_ignores c_values c_due o.2.2 c_fired c_made c_classes c_size c_taken c_stateClass c_finerClass c_usedBits c_offsets c_owners) := by
  intro sz
  refine pw_entry (Qc := fun A => pw_Qv D (CT ca) (CW ad ca c_states c_transitions c_timerEvent c_from c_event c_next c_variable c_relation c_number c_actions c_kind c_a c_b c_present c_now o.1 o.2.1 c_ignores c_values c_due o.2.2 c_fired c_made c_classes c_size c_taken c_stateClass c_finerClass c_usedBits c_offsets c_owners) A) (cc := cX0_emit) (maxL := 2) (ret := none) (by decide) rfl (Nat.le_of_ble_eq_true rfl) ?_ sz
  intro p e s m args below meth c A ls Z H locs hx hb hr hlocks hts hown hml hnm hK hP hD hS hA hl hZ
  have hown : s.vm.findClass RX0 = some m.cls := hown
  have hiX0 : ∀ w ∈ u_ws RX0 TX0 10, w ∈ wsX0_emit := by decide +kernel
  have f19 := hts (.fieldLink RX0 19 "ProtocolMachine$Execution" "emits" "I") (by decide +kernel)
  have f22 := hts (.fieldLink RX0 22 "ProtocolMachine$Execution" "kept" "I") (by decide +kernel)
  have f36 := hts (.fieldLink RX0 36 "ProtocolMachine$Execution" "outputs" "[I") (by decide +kernel)
  have hl : lv_has ls 2 [(0, .ref (ad 2)), (1, .int v1)] := hl
  have B29 : ∀ (c_kept : Int32) (c_outputs : Nat → Int32) (H : Heap) (locs : List Loc) (ls : Array Slot), va_P D vwCl (CW ad ca c_states c_transitions c_timerEvent c_from c_event c_next c_variable c_relation c_number c_actions c_kind c_a c_b c_present c_now c_emits c_kept c_ignores c_values c_due c_outputs c_fired c_made c_classes c_size c_taken c_stateClass c_finerClass c_usedBits c_offsets c_owners) H → va_D A (CW ad ca c_states c_transitions c_timerEvent c_from c_event c_next c_variable c_relation c_number c_actions c_kind c_a c_b c_present c_now c_emits c_kept c_ignores c_values c_due c_outputs c_fired c_made c_classes c_size c_taken c_stateClass c_finerClass c_usedBits c_offsets c_owners) → va_S A s.heap H locs → lv_has ls 2 [(0, .ref (ad 2))] → X0_emit_B29 c_emits c_kept c_outputs = some o → W p l e rmX0_emit s m args below meth c H locs 0 0 Z (F0 m 29 ls []) := by
    intro c_kept c_outputs H locs ls hP hD hS hl hf
    unfold X0_emit_B29 at hf
    refine lv_aload_n hx hb dX0_emit_29 rfl (lv_at hl 0 rfl) ?_
    refine lv_dup hx hb dX0_emit_30 rfl ?_
    refine va_get (D := D) (ci := 0) (v := .int c_emits) (C := RX0) (T := TX0) (N := 10) hx hb hts hiX0 hown hK hP 2 rfl rfl 3 (by decide) f19 (fun _ h9 => h9) rfl dX0_emit_31 ?_
    refine lv_iconst (v := (1 : Int32)) hx hb dX0_emit_34 (by decide) ?_
    refine lv_iadd hx hb dX0_emit_35 ?_
    refine va_put (D := D) (ci := 0) (v := .int (c_emits + (1 : Int32))) (ty := .int) (C := RX0) (T := TX0) (N := 10) hx hb hts hiX0 tyX0 tyX0_ok nmX0 hown hK hP hD hS 2 rfl rfl 3 (by decide) f19 (fun _ h9 => h9) rfl (by decide +kernel) rfl rfl (Nat.le_of_ble_eq_true rfl) dX0_emit_36 (fun H locs hP hD hS => ?_)
    have hP : va_P D vwCl (CW ad ca c_states c_transitions c_timerEvent c_from c_event c_next c_variable c_relation c_number c_actions c_kind c_a c_b c_present c_now (c_emits + (1 : Int32)) c_kept c_ignores c_values c_due c_outputs c_fired c_made c_classes c_size c_taken c_stateClass c_finerClass c_usedBits c_offsets c_owners) H := hP
    have hD : va_D A (CW ad ca c_states c_transitions c_timerEvent c_from c_event c_next c_variable c_relation c_number c_actions c_kind c_a c_b c_present c_now (c_emits + (1 : Int32)) c_kept c_ignores c_values c_due c_outputs c_fired c_made c_classes c_size c_taken c_stateClass c_finerClass c_usedBits c_offsets c_owners) := hD
    obtain rfl := Option.some.inj hf
    subst hZ
    exact pw_rv hx hb hr hlocks hK hP hD hS (Nat.le_of_ble_eq_true rfl) (Nat.le_of_ble_eq_true rfl) dX0_emit_39
  unfold X0_emit at hf
  refine lv_aload_n hx hb dX0_emit_0 rfl (lv_at hl 0 rfl) ?_
  refine va_get (D := D) (ci := 0) (v := .int c_kept) (C := RX0) (T := TX0) (N := 10) hx hb hts hiX0 hown hK hP 2 rfl rfl 4 (by decide) f22 (fun _ h9 => h9) rfl dX0_emit_1 ?_
  refine lv_bipush (v := (60 : Int32)) hx hb dX0_emit_4 (by decide) ?_
  refine lv_icmp_ge (tgt := 29) hx hb dX0_emit_6 (by decide) (fun hc => ?_) (fun hc => ?_)
  · have hf := pr_t hf hc
    exact B29 c_kept c_outputs H locs ls hP hD hS (lv_sub hl [0] rfl) hf
  · have hf := pr_f hf hc
    refine lv_aload_n hx hb dX0_emit_9 rfl (lv_at hl 0 rfl) ?_
    refine va_get (D := D) (ci := 0) (v := .ref (ad 17)) (C := RX0) (T := TX0) (N := 10) hx hb hts hiX0 hown hK hP 2 rfl rfl 8 (by decide) f36 (fun _ h9 => h9) rfl dX0_emit_10 ?_
    refine lv_aload_n hx hb dX0_emit_13 rfl (lv_at hl 0 rfl) ?_
    refine va_get (D := D) (ci := 0) (v := .int c_kept) (C := RX0) (T := TX0) (N := 10) hx hb hts hiX0 hown hK hP 2 rfl rfl 4 (by decide) f22 (fun _ h9 => h9) rfl dX0_emit_14 ?_
    refine lv_iload_n hx hb dX0_emit_17 rfl (lv_at hl 1 rfl) ?_
    obtain ⟨hi18, hf⟩ := pr_in hf
    refine va_iast hx hb hK hP hD hS 17 13 rfl rfl hi18 dX0_emit_18 (fun H locs hP hD hS => ?_)
    have hP : va_P D vwCl (CW ad ca c_states c_transitions c_timerEvent c_from c_event c_next c_variable c_relation c_number c_actions c_kind c_a c_b c_present c_now c_emits c_kept c_ignores c_values c_due (upd c_outputs c_kept.toNatClampNeg v1) c_fired c_made c_classes c_size c_taken c_stateClass c_finerClass c_usedBits c_offsets c_owners) H := hP
    have hD : va_D A (CW ad ca c_states c_transitions c_timerEvent c_from c_event c_next c_variable c_relation c_number c_actions c_kind c_a c_b c_present c_now c_emits c_kept c_ignores c_values c_due (upd c_outputs c_kept.toNatClampNeg v1) c_fired c_made c_classes c_size c_taken c_stateClass c_finerClass c_usedBits c_offsets c_owners) := hD
    refine lv_aload_n hx hb dX0_emit_19 rfl (lv_at hl 0 rfl) ?_
    refine lv_dup hx hb dX0_emit_20 rfl ?_
    refine va_get (D := D) (ci := 0) (v := .int c_kept) (C := RX0) (T := TX0) (N := 10) hx hb hts hiX0 hown hK hP 2 rfl rfl 4 (by decide) f22 (fun _ h9 => h9) rfl dX0_emit_21 ?_
    refine lv_iconst (v := (1 : Int32)) hx hb dX0_emit_24 (by decide) ?_
    refine lv_iadd hx hb dX0_emit_25 ?_
    refine va_put (D := D) (ci := 0) (v := .int (c_kept + (1 : Int32))) (ty := .int) (C := RX0) (T := TX0) (N := 10) hx hb hts hiX0 tyX0 tyX0_ok nmX0 hown hK hP hD hS 2 rfl rfl 4 (by decide) f22 (fun _ h9 => h9) rfl (by decide +kernel) rfl rfl (Nat.le_of_ble_eq_true rfl) dX0_emit_26 (fun H locs hP hD hS => ?_)
    have hP : va_P D vwCl (CW ad ca c_states c_transitions c_timerEvent c_from c_event c_next c_variable c_relation c_number c_actions c_kind c_a c_b c_present c_now c_emits (c_kept + (1 : Int32)) c_ignores c_values c_due (upd c_outputs c_kept.toNatClampNeg v1) c_fired c_made c_classes c_size c_taken c_stateClass c_finerClass c_usedBits c_offsets c_owners) H := hP
    have hD : va_D A (CW ad ca c_states c_transitions c_timerEvent c_from c_event c_next c_variable c_relation c_number c_actions c_kind c_a c_b c_present c_now c_emits (c_kept + (1 : Int32)) c_ignores c_values c_due (upd c_outputs c_kept.toNatClampNeg v1) c_fired c_made c_classes c_size c_taken c_stateClass c_finerClass c_usedBits c_offsets c_owners) := hD
    exact B29 (c_kept + (1 : Int32)) (upd c_outputs c_kept.toNatClampNeg v1) H locs ls hP hD hS (lv_sub hl [0] rfl) hf
abbrev rmX0_act : Room := { frames := 1, cells := 0, slots := 0, locals := 21 }
set_option maxHeartbeats 4000000 in
set_option maxRecDepth 100000 in
theorem c_X0_act {l : Launch} {D : va_G} {ad : Nat → Nat} {ca : Nat → ClassId} (c_states c_transitions : Int32) (c_timerEvent c_from c_event c_next c_variable c_relation c_number c_actions c_kind c_a c_b : Nat → Int32) (c_present : Int32) (c_now : Int64) (c_emits c_kept c_ignores : Int32) (c_values : Nat → Int32) (c_due : Nat → Int64) (c_outputs c_fired : Nat → Int32) (c_made c_classes c_size c_taken : Int32) (c_stateClass c_finerClass c_usedBits c_offsets c_owners : Nat → Int32) (v1 : Int32) {o : Int32 × Int32 × (Nat → Int32) × (Nat → Int64) × (Nat → Int32)} (hf : X0_act c_kind c_a c_b c_now c_emits c_kept c_values c_due c_outputs v1 = some o) : Cv l yX0_act wsX0_act rmX0_act D (CT ca) (CW ad ca c_states c_transitions c_timerEvent c_from c_event c_next c_variable c_relation c_number c_actions c_kind c_a c_b c_present c_now c_emits c_kept c_ignores c_values c_due c_outputs c_fired c_made c_classes c_size c_taken c_stateClass c_finerClass c_usedBits c_offsets c_owners) [.ref (ad 2), .int v1] (CW ad ca c_states c_transitions c_timerEvent c_from c_event c_next c_variable c_relation c_number c_actions c_kind c_a c_b c_present c_now o.1 o.2.1 c_ignores o.2.2.1 o.2.2.2.1 o.2.2.2.2 c_fired c_made c_classes c_size c_taken c_stateClass c_finerClass c_usedBits c_offsets c_owners) := by
  intro sz
  refine pw_entry (Qc := fun A => pw_Qv D (CT ca) (CW ad ca c_states c_transitions c_timerEvent c_from c_event c_next c_variable c_relation c_number c_actions c_kind c_a c_b c_present c_now o.1 o.2.1 c_ignores o.2.2.1 o.2.2.2.1 o.2.2.2.2 c_fired c_made c_classes c_size c_taken c_stateClass c_finerClass c_usedBits c_offsets c_owners) A) (cc := cX0_act) (maxL := 4) (ret := none) (by decide) rfl (Nat.le_of_ble_eq_true rfl) ?_ sz
  intro p e s m args below meth c A ls Z H locs hx hb hr hlocks hts hown hml hnm hK hP hD hS hA hl hZ
  have hown : s.vm.findClass RX0 = some m.cls := hown
  have hiX0 : ∀ w ∈ u_ws RX0 TX0 10, w ∈ wsX0_act := by decide +kernel
  have hiX1 : ∀ w ∈ u_ws RX1 TX1 13, w ∈ wsX0_act := by decide +kernel
  have f15 := hts (.fieldLink RX0 15 "ProtocolMachine$Execution" "now" "J") (by decide +kernel)
  have f28 := hts (.fieldLink RX0 28 "ProtocolMachine$Execution" "values" "[I") (by decide +kernel)
  have f32 := hts (.fieldLink RX0 32 "ProtocolMachine$Execution" "due" "[J") (by decide +kernel)
  have f42 := hts (.fieldLink RX0 42 "ProtocolMachine$Execution" "protocol" "LProtocolMachine$Protocol;") (by decide +kernel)
  have f90 := hts (.fieldLink RX0 90 "ProtocolMachine$Protocol" "a" "[I") (by decide +kernel)
  have f93 := hts (.fieldLink RX0 93 "ProtocolMachine$Protocol" "b" "[I") (by decide +kernel)
  have f96 := hts (.fieldLink RX0 96 "ProtocolMachine$Protocol" "kind" "[I") (by decide +kernel)
  have k46 := hts (.constantLong RX0 46 (-1)) (by decide +kernel)
  have mc_max := hts (.code Lib.Math.max.name Lib.Math.max.code 2 (some .int)) (by decide +kernel)
  have mc_min := hts (.code Lib.Math.min.name Lib.Math.min.code 2 (some .int)) (by decide +kernel)
  have mi := hts (.initialized "java/lang/Math") (by decide +kernel)
  have ml105 := hts (.methodLink RX0 105 Lib.Math.max.name) (by decide +kernel)
  have ml99 := hts (.methodLink RX0 99 Lib.Math.min.name) (by decide +kernel)
  have ms_max := hts (.static Lib.Math.max.name) (by decide +kernel)
  have ms_min := hts (.static Lib.Math.min.name) (by decide +kernel)
  have hl : lv_has ls 4 [(0, .ref (ad 2)), (1, .int v1)] := hl
  unfold X0_act at hf
  refine lv_aload_n hx hb dX0_act_0 rfl (lv_at hl 0 rfl) ?_
  refine va_get (D := D) (ci := 0) (v := .ref (ad 1)) (C := RX0) (T := TX0) (N := 10) hx hb hts hiX0 hown hK hP 2 rfl rfl 0 (by decide) f42 (fun _ h9 => h9) rfl dX0_act_1 ?_
  refine va_get (D := D) (ci := 1) (v := .ref (ad 13)) (C := RX1) (T := TX1) (N := 13) hx hb hts hiX1 hown hK hP 1 rfl rfl 11 (by decide) f90 (fun _ h9 => h9) rfl dX0_act_4 ?_
  refine lv_iload_n hx hb dX0_act_7 rfl (lv_at hl 1 rfl) ?_
  obtain ⟨hi8, hf⟩ := pr_in hf
  refine va_iald hx hb hK hP 13 9 rfl rfl hi8 dX0_act_8 ?_
  refine lv_istore_n (lv' := [(2, .int (c_a v1.toNatClampNeg)), (0, .ref (ad 2)), (1, .int v1)]) hx hb dX0_act_9 rfl hl (by decide) rfl (fun ls hl => ?_)
  refine lv_aload_n hx hb dX0_act_10 rfl (lv_at hl 1 rfl) ?_
  refine va_get (D := D) (ci := 0) (v := .ref (ad 1)) (C := RX0) (T := TX0) (N := 10) hx hb hts hiX0 hown hK hP 2 rfl rfl 0 (by decide) f42 (fun _ h9 => h9) rfl dX0_act_11 ?_
  refine va_get (D := D) (ci := 1) (v := .ref (ad 14)) (C := RX1) (T := TX1) (N := 13) hx hb hts hiX1 hown hK hP 1 rfl rfl 12 (by decide) f93 (fun _ h9 => h9) rfl dX0_act_14 ?_
  refine lv_iload_n hx hb dX0_act_17 rfl (lv_at hl 2 rfl) ?_
  refine va_iald hx hb hK hP 14 10 rfl rfl hi8 dX0_act_18 ?_
  refine lv_istore_n (lv' := [(3, .int (c_b v1.toNatClampNeg)), (2, .int (c_a v1.toNatClampNeg)), (0, .ref (ad 2)), (1, .int v1)]) hx hb dX0_act_19 rfl hl (by decide) rfl (fun ls hl => ?_)
  refine lv_aload_n hx hb dX0_act_20 rfl (lv_at hl 2 rfl) ?_
  refine va_get (D := D) (ci := 0) (v := .ref (ad 1)) (C := RX0) (T := TX0) (N := 10) hx hb hts hiX0 hown hK hP 2 rfl rfl 0 (by decide) f42 (fun _ h9 => h9) rfl dX0_act_21 ?_
  refine va_get (D := D) (ci := 1) (v := .ref (ad 12)) (C := RX1) (T := TX1) (N := 13) hx hb hts hiX1 hown hK hP 1 rfl rfl 10 (by decide) f96 (fun _ h9 => h9) rfl dX0_act_24 ?_
  refine lv_iload_n hx hb dX0_act_27 rfl (lv_at hl 3 rfl) ?_
  refine va_iald hx hb hK hP 12 8 rfl rfl hi8 dX0_act_28 ?_
  by_cases hc0 : (c_kind v1.toNatClampNeg) = (0 : Int32)
  · have hf := pr_t hf hc0
    refine pw_tab (off := 31) (tgt := 60) hx hb dX0_act_29 hc0 (by decide) (by decide) (by decide) (by decide) ?_
    refine lv_aload_n hx hb dX0_act_60 rfl (lv_at hl 2 rfl) ?_
    refine va_get (D := D) (ci := 0) (v := .ref (ad 15)) (C := RX0) (T := TX0) (N := 10) hx hb hts hiX0 hown hK hP 2 rfl rfl 6 (by decide) f28 (fun _ h9 => h9) rfl dX0_act_61 ?_
    refine lv_iload_n hx hb dX0_act_64 rfl (lv_at hl 1 rfl) ?_
    refine lv_iload_n hx hb dX0_act_65 rfl (lv_at hl 0 rfl) ?_
    obtain ⟨hi66, hf⟩ := pr_in hf
    refine va_iast hx hb hK hP hD hS 15 11 rfl rfl hi66 dX0_act_66 (fun H locs hP hD hS => ?_)
    have hP : va_P D vwCl (CW ad ca c_states c_transitions c_timerEvent c_from c_event c_next c_variable c_relation c_number c_actions c_kind c_a c_b c_present c_now c_emits c_kept c_ignores (upd c_values (c_a v1.toNatClampNeg).toNatClampNeg (c_b v1.toNatClampNeg)) c_due c_outputs c_fired c_made c_classes c_size c_taken c_stateClass c_finerClass c_usedBits c_offsets c_owners) H := hP
    have hD : va_D A (CW ad ca c_states c_transitions c_timerEvent c_from c_event c_next c_variable c_relation c_number c_actions c_kind c_a c_b c_present c_now c_emits c_kept c_ignores (upd c_values (c_a v1.toNatClampNeg).toNatClampNeg (c_b v1.toNatClampNeg)) c_due c_outputs c_fired c_made c_classes c_size c_taken c_stateClass c_finerClass c_usedBits c_offsets c_owners) := hD
    refine lv_goto (tgt := 132) hx hb dX0_act_67 (by decide) ?_
    obtain rfl := Option.some.inj hf
    subst hZ
    exact pw_rv hx hb hr hlocks hK hP hD hS (Nat.le_of_ble_eq_true rfl) (Nat.le_of_ble_eq_true rfl) dX0_act_132
  have hf := pr_f hf hc0
  by_cases hc1 : (c_kind v1.toNatClampNeg) = (1 : Int32)
  · have hf := pr_t hf hc1
    refine pw_tab (off := 41) (tgt := 70) hx hb dX0_act_29 hc1 (by decide) (by decide) (by decide) (by decide) ?_
    refine lv_aload_n hx hb dX0_act_70 rfl (lv_at hl 2 rfl) ?_
    refine va_get (D := D) (ci := 0) (v := .ref (ad 15)) (C := RX0) (T := TX0) (N := 10) hx hb hts hiX0 hown hK hP 2 rfl rfl 6 (by decide) f28 (fun _ h9 => h9) rfl dX0_act_71 ?_
    refine lv_iload_n hx hb dX0_act_74 rfl (lv_at hl 1 rfl) ?_
    refine lv_sipush (v := (-1000 : Int32)) hx hb dX0_act_75 (by decide) ?_
    refine lv_sipush (v := (1000 : Int32)) hx hb dX0_act_78 (by decide) ?_
    refine lv_aload_n hx hb dX0_act_81 rfl (lv_at hl 2 rfl) ?_
    refine va_get (D := D) (ci := 0) (v := .ref (ad 15)) (C := RX0) (T := TX0) (N := 10) hx hb hts hiX0 hown hK hP 2 rfl rfl 6 (by decide) f28 (fun _ h9 => h9) rfl dX0_act_82 ?_
    refine lv_iload_n hx hb dX0_act_85 rfl (lv_at hl 1 rfl) ?_
    obtain ⟨hi86, hf⟩ := pr_in hf
    refine va_iald hx hb hK hP 15 11 rfl rfl hi86 dX0_act_86 ?_
    refine lv_iload_n hx hb dX0_act_87 rfl (lv_at hl 0 rfl) ?_
    refine lv_iadd hx hb dX0_act_88 ?_
    refine va_mmin hx hb (hml.trans hl.1.symm) hown ml99 ms_min mi mc_min (Nat.le_of_ble_eq_true rfl) (Nat.le_of_ble_eq_true rfl) (Nat.le_of_ble_eq_true rfl) (Nat.le_of_ble_eq_true rfl) dX0_act_89 ?_
    refine va_mmax hx hb (hml.trans hl.1.symm) hown ml105 ms_max mi mc_max (Nat.le_of_ble_eq_true rfl) (Nat.le_of_ble_eq_true rfl) (Nat.le_of_ble_eq_true rfl) (Nat.le_of_ble_eq_true rfl) dX0_act_92 ?_
    refine va_iast hx hb hK hP hD hS 15 11 rfl rfl hi86 dX0_act_95 (fun H locs hP hD hS => ?_)
    have hP : va_P D vwCl (CW ad ca c_states c_transitions c_timerEvent c_from c_event c_next c_variable c_relation c_number c_actions c_kind c_a c_b c_present c_now c_emits c_kept c_ignores (upd c_values (c_a v1.toNatClampNeg).toNatClampNeg (if (-1000 : Int32) < (if ((c_values (c_a v1.toNatClampNeg).toNatClampNeg) + (c_b v1.toNatClampNeg)) < (1000 : Int32) then ((c_values (c_a v1.toNatClampNeg).toNatClampNeg) + (c_b v1.toNatClampNeg)) else (1000 : Int32)) then (if ((c_values (c_a v1.toNatClampNeg).toNatClampNeg) + (c_b v1.toNatClampNeg)) < (1000 : Int32) then ((c_values (c_a v1.toNatClampNeg).toNatClampNeg) + (c_b v1.toNatClampNeg)) else (1000 : Int32)) else (-1000 : Int32))) c_due c_outputs c_fired c_made c_classes c_size c_taken c_stateClass c_finerClass c_usedBits c_offsets c_owners) H := hP
    have hD : va_D A (CW ad ca c_states c_transitions c_timerEvent c_from c_event c_next c_variable c_relation c_number c_actions c_kind c_a c_b c_present c_now c_emits c_kept c_ignores (upd c_values (c_a v1.toNatClampNeg).toNatClampNeg (if (-1000 : Int32) < (if ((c_values (c_a v1.toNatClampNeg).toNatClampNeg) + (c_b v1.toNatClampNeg)) < (1000 : Int32) then ((c_values (c_a v1.toNatClampNeg).toNatClampNeg) + (c_b v1.toNatClampNeg)) else (1000 : Int32)) then (if ((c_values (c_a v1.toNatClampNeg).toNatClampNeg) + (c_b v1.toNatClampNeg)) < (1000 : Int32) then ((c_values (c_a v1.toNatClampNeg).toNatClampNeg) + (c_b v1.toNatClampNeg)) else (1000 : Int32)) else (-1000 : Int32))) c_due c_outputs c_fired c_made c_classes c_size c_taken c_stateClass c_finerClass c_usedBits c_offsets c_owners) := hD
    refine lv_goto (tgt := 132) hx hb dX0_act_96 (by decide) ?_
    obtain rfl := Option.some.inj hf
    subst hZ
    exact pw_rv hx hb hr hlocks hK hP hD hS (Nat.le_of_ble_eq_true rfl) (Nat.le_of_ble_eq_true rfl) dX0_act_132
  have hf := pr_f hf hc1
  by_cases hc2 : (c_kind v1.toNatClampNeg) = (2 : Int32)
  · have hf := pr_t hf hc2
    refine pw_tab (off := 70) (tgt := 99) hx hb dX0_act_29 hc2 (by decide) (by decide) (by decide) (by decide) ?_
    refine lv_aload_n hx hb dX0_act_99 rfl (lv_at hl 2 rfl) ?_
    refine va_get (D := D) (ci := 0) (v := .ref (ad 16)) (C := RX0) (T := TX0) (N := 10) hx hb hts hiX0 hown hK hP 2 rfl rfl 7 (by decide) f32 (fun _ h9 => h9) rfl dX0_act_100 ?_
    refine lv_iload_n hx hb dX0_act_103 rfl (lv_at hl 1 rfl) ?_
    refine lv_aload_n hx hb dX0_act_104 rfl (lv_at hl 2 rfl) ?_
    refine va_get (D := D) (ci := 0) (v := .long c_now) (C := RX0) (T := TX0) (N := 10) hx hb hts hiX0 hown hK hP 2 rfl rfl 2 (by decide) f15 (fun _ h9 => h9) rfl dX0_act_105 ?_
    refine lv_iload_n hx hb dX0_act_108 rfl (lv_at hl 0 rfl) ?_
    refine lv_i2l (v := (c_b v1.toNatClampNeg).toInt64) hx hb dX0_act_109 rfl ?_
    refine lv_ladd hx hb dX0_act_110 ?_
    obtain ⟨hi111, hf⟩ := pr_in hf
    refine va_last hx hb hK hP hD hS 16 12 rfl rfl hi111 dX0_act_111 (fun H locs hP hD hS => ?_)
    have hP : va_P D vwCl (CW ad ca c_states c_transitions c_timerEvent c_from c_event c_next c_variable c_relation c_number c_actions c_kind c_a c_b c_present c_now c_emits c_kept c_ignores c_values (vp_updL c_due (c_a v1.toNatClampNeg).toNatClampNeg (c_now + (c_b v1.toNatClampNeg).toInt64)) c_outputs c_fired c_made c_classes c_size c_taken c_stateClass c_finerClass c_usedBits c_offsets c_owners) H := hP
    have hD : va_D A (CW ad ca c_states c_transitions c_timerEvent c_from c_event c_next c_variable c_relation c_number c_actions c_kind c_a c_b c_present c_now c_emits c_kept c_ignores c_values (vp_updL c_due (c_a v1.toNatClampNeg).toNatClampNeg (c_now + (c_b v1.toNatClampNeg).toInt64)) c_outputs c_fired c_made c_classes c_size c_taken c_stateClass c_finerClass c_usedBits c_offsets c_owners) := hD
    refine lv_goto (tgt := 132) hx hb dX0_act_112 (by decide) ?_
    obtain rfl := Option.some.inj hf
    subst hZ
    exact pw_rv hx hb hr hlocks hK hP hD hS (Nat.le_of_ble_eq_true rfl) (Nat.le_of_ble_eq_true rfl) dX0_act_132
  have hf := pr_f hf hc2
  by_cases hc3 : (c_kind v1.toNatClampNeg) = (3 : Int32)
  · have hf := pr_t hf hc3
    refine pw_tab (off := 86) (tgt := 115) hx hb dX0_act_29 hc3 (by decide) (by decide) (by decide) (by decide) ?_
    refine lv_aload_n hx hb dX0_act_115 rfl (lv_at hl 2 rfl) ?_
    refine va_get (D := D) (ci := 0) (v := .ref (ad 16)) (C := RX0) (T := TX0) (N := 10) hx hb hts hiX0 hown hK hP 2 rfl rfl 7 (by decide) f32 (fun _ h9 => h9) rfl dX0_act_116 ?_
    refine lv_iload_n hx hb dX0_act_119 rfl (lv_at hl 1 rfl) ?_
    refine lv_ldc2 (v := (-1 : Int64)) hx hb hown k46 dX0_act_120 ?_
    obtain ⟨hi123, hf⟩ := pr_in hf
    refine va_last hx hb hK hP hD hS 16 12 rfl rfl hi123 dX0_act_123 (fun H locs hP hD hS => ?_)
    have hP : va_P D vwCl (CW ad ca c_states c_transitions c_timerEvent c_from c_event c_next c_variable c_relation c_number c_actions c_kind c_a c_b c_present c_now c_emits c_kept c_ignores c_values (vp_updL c_due (c_a v1.toNatClampNeg).toNatClampNeg (-1 : Int64)) c_outputs c_fired c_made c_classes c_size c_taken c_stateClass c_finerClass c_usedBits c_offsets c_owners) H := hP
    have hD : va_D A (CW ad ca c_states c_transitions c_timerEvent c_from c_event c_next c_variable c_relation c_number c_actions c_kind c_a c_b c_present c_now c_emits c_kept c_ignores c_values (vp_updL c_due (c_a v1.toNatClampNeg).toNatClampNeg (-1 : Int64)) c_outputs c_fired c_made c_classes c_size c_taken c_stateClass c_finerClass c_usedBits c_offsets c_owners) := hD
    refine lv_goto (tgt := 132) hx hb dX0_act_124 (by decide) ?_
    obtain rfl := Option.some.inj hf
    subst hZ
    exact pw_rv hx hb hr hlocks hK hP hD hS (Nat.le_of_ble_eq_true rfl) (Nat.le_of_ble_eq_true rfl) dX0_act_132
  have hf := pr_f hf hc3
  refine lv_tableOut (tgt := 127) hx hb dX0_act_29 (by have := lv_neT (a := 0) hc0 (by decide); have := lv_neT (a := 1) hc1 (by decide); have := lv_neT (a := 2) hc2 (by decide); have := lv_neT (a := 3) hc3 (by decide); omega) (by decide) ?_
  refine lv_aload_n hx hb dX0_act_127 rfl (lv_at hl 2 rfl) ?_
  refine lv_iload_n hx hb dX0_act_128 rfl (lv_at hl 1 rfl) ?_
  obtain ⟨x129, hg129, hf⟩ := pr_b hf
  refine pw_cVvW (b := ad 2) (As := [.int (c_a v1.toNatClampNeg)]) (rest := []) ⟨hx, hb, hml, hown, hts⟩ (c_X0_emit (D := D) c_states c_transitions c_timerEvent c_from c_event c_next c_variable c_relation c_number c_actions c_kind c_a c_b c_present c_now c_emits c_kept c_ignores c_values c_due c_outputs c_fired c_made c_classes c_size c_taken c_stateClass c_finerClass c_usedBits c_offsets c_owners (c_a v1.toNatClampNeg) hg129) (cwV 1 hts gX0_act_X0_emit rfl rfl rfl (by decide +kernel) ⟨Nat.le_of_ble_eq_true rfl, Nat.le_of_ble_eq_true rfl⟩) 2 0 rfl rfl hK hP hD hS hA rfl hl.1 rfl (Nat.le_of_ble_eq_true rfl) dX0_act_129 ⟨Nat.le_of_ble_eq_true rfl, Nat.le_of_ble_eq_true rfl⟩ (fun H locs hP hD hS => ?_)
  have hP : va_P D vwCl (CW ad ca c_states c_transitions c_timerEvent c_from c_event c_next c_variable c_relation c_number c_actions c_kind c_a c_b c_present c_now x129.1 x129.2.1 c_ignores c_values c_due x129.2.2 c_fired c_made c_classes c_size c_taken c_stateClass c_finerClass c_usedBits c_offsets c_owners) H := hP
  have hD : va_D A (CW ad ca c_states c_transitions c_timerEvent c_from c_event c_next c_variable c_relation c_number c_actions c_kind c_a c_b c_present c_now x129.1 x129.2.1 c_ignores c_values c_due x129.2.2 c_fired c_made c_classes c_size c_taken c_stateClass c_finerClass c_usedBits c_offsets c_owners) := hD
  obtain rfl := Option.some.inj hf
  subst hZ
  exact pw_rv hx hb hr hlocks hK hP hD hS (Nat.le_of_ble_eq_true rfl) (Nat.le_of_ble_eq_true rfl) dX0_act_132
abbrev rmX0_react : Room := { frames := 3, cells := 0, slots := 0, locals := 66 }
set_option maxHeartbeats 4000000 in
set_option maxRecDepth 100000 in
theorem c_X0_react {l : Launch} {D : va_G} {ad : Nat → Nat} {ca : Nat → ClassId} (fu : Nat) (c_states c_transitions : Int32) (c_timerEvent c_from c_event c_next c_variable c_relation c_number c_actions c_kind c_a c_b : Nat → Int32) (c_present : Int32) (c_now : Int64) (c_emits c_kept c_ignores : Int32) (c_values : Nat → Int32) (c_due : Nat → Int64) (c_outputs c_fired : Nat → Int32) (c_made c_classes c_size c_taken : Int32) (c_stateClass c_finerClass c_usedBits c_offsets c_owners : Nat → Int32) (v1 : Int32) {o : Int32 × Int32 × Int32 × Int32 × Int32 × (Nat → Int32) × (Nat → Int64) × (Nat → Int32) × (Nat → Int32)} (hf : X0_react fu c_transitions c_from c_event c_next c_variable c_relation c_number c_actions c_kind c_a c_b c_present c_now c_emits c_kept c_ignores c_values c_due c_outputs c_fired v1 = some o) : Ci l yX0_react wsX0_react rmX0_react D (CT ca) (CW ad ca c_states c_transitions c_timerEvent c_from c_event c_next c_variable c_relation c_number c_actions c_kind c_a c_b c_present c_now c_emits c_kept c_ignores c_values c_due c_outputs c_fired c_made c_classes c_size c_taken c_stateClass c_finerClass c_usedBits c_offsets c_owners) [.ref (ad 2), .int v1] o.1 (CW ad ca c_states c_transitions c_timerEvent c_from c_event c_next c_variable c_relation c_number c_actions c_kind c_a c_b o.2.1 c_now o.2.2.1 o.2.2.2.1 o.2.2.2.2.1 o.2.2.2.2.2.1 o.2.2.2.2.2.2.1 o.2.2.2.2.2.2.2.1 o.2.2.2.2.2.2.2.2 c_made c_classes c_size c_taken c_stateClass c_finerClass c_usedBits c_offsets c_owners) := by
  intro sz
  refine pw_entry (Qc := fun A => pw_Qi D (CT ca) (CW ad ca c_states c_transitions c_timerEvent c_from c_event c_next c_variable c_relation c_number c_actions c_kind c_a c_b o.2.1 c_now o.2.2.1 o.2.2.2.1 o.2.2.2.2.1 o.2.2.2.2.2.1 o.2.2.2.2.2.2.1 o.2.2.2.2.2.2.2.1 o.2.2.2.2.2.2.2.2 c_made c_classes c_size c_taken c_stateClass c_finerClass c_usedBits c_offsets c_owners) A o.1) (cc := cX0_react) (maxL := 4) (ret := (some .int)) (by decide) rfl (Nat.le_of_ble_eq_true rfl) ?_ sz
  intro p e s m args below meth c A ls Z H locs hx hb hr hlocks hts hown hml hnm hK hP hD hS hA hl hZ
  have hown : s.vm.findClass RX0 = some m.cls := hown
  have hiX0 : ∀ w ∈ u_ws RX0 TX0 10, w ∈ wsX0_react := by decide +kernel
  have hiX1 : ∀ w ∈ u_ws RX1 TX1 13, w ∈ wsX0_react := by decide +kernel
  have f25 := hts (.fieldLink RX0 25 "ProtocolMachine$Execution" "ignores" "I") (by decide +kernel)
  have f39 := hts (.fieldLink RX0 39 "ProtocolMachine$Execution" "fired" "[I") (by decide +kernel)
  have f42 := hts (.fieldLink RX0 42 "ProtocolMachine$Execution" "protocol" "LProtocolMachine$Protocol;") (by decide +kernel)
  have f61 := hts (.fieldLink RX0 61 "ProtocolMachine$Protocol" "actions" "[I") (by decide +kernel)
  have f70 := hts (.fieldLink RX0 70 "ProtocolMachine$Protocol" "next" "[I") (by decide +kernel)
  have f9 := hts (.fieldLink RX0 9 "ProtocolMachine$Execution" "present" "I") (by decide +kernel)
  have hl : lv_has ls 4 [(0, .ref (ad 2)), (1, .int v1)] := hl
  have B63 : ∀ (c_emits c_kept : Int32) (c_values : Nat → Int32) (c_due : Nat → Int64) (c_outputs c_fired : Nat → Int32) (v2 : Int32) (H : Heap) (locs : List Loc) (ls : Array Slot), va_P D vwCl (CW ad ca c_states c_transitions c_timerEvent c_from c_event c_next c_variable c_relation c_number c_actions c_kind c_a c_b c_present c_now c_emits c_kept c_ignores c_values c_due c_outputs c_fired c_made c_classes c_size c_taken c_stateClass c_finerClass c_usedBits c_offsets c_owners) H → va_D A (CW ad ca c_states c_transitions c_timerEvent c_from c_event c_next c_variable c_relation c_number c_actions c_kind c_a c_b c_present c_now c_emits c_kept c_ignores c_values c_due c_outputs c_fired c_made c_classes c_size c_taken c_stateClass c_finerClass c_usedBits c_offsets c_owners) → va_S A s.heap H locs → lv_has ls 4 [(0, .ref (ad 2)), (2, .int v2)] → X0_react_B63 c_next c_ignores c_emits c_kept c_values c_due c_outputs c_fired v2 = some o → W p l e rmX0_react s m args below meth c H locs 0 0 Z (F0 m 63 ls []) := by
    intro c_emits c_kept c_values c_due c_outputs c_fired v2 H locs ls hP hD hS hl hf
    unfold X0_react_B63 at hf
    refine lv_aload_n hx hb dX0_react_63 rfl (lv_at hl 0 rfl) ?_
    refine lv_aload_n hx hb dX0_react_64 rfl (lv_at hl 0 rfl) ?_
    refine va_get (D := D) (ci := 0) (v := .ref (ad 1)) (C := RX0) (T := TX0) (N := 10) hx hb hts hiX0 hown hK hP 2 rfl rfl 0 (by decide) f42 (fun _ h9 => h9) rfl dX0_react_65 ?_
    refine va_get (D := D) (ci := 1) (v := .ref (ad 7)) (C := RX1) (T := TX1) (N := 13) hx hb hts hiX1 hown hK hP 1 rfl rfl 5 (by decide) f70 (fun _ h9 => h9) rfl dX0_react_68 ?_
    refine lv_iload_n hx hb dX0_react_71 rfl (lv_at hl 1 rfl) ?_
    obtain ⟨hi72, hf⟩ := pr_in hf
    refine va_iald hx hb hK hP 7 3 rfl rfl hi72 dX0_react_72 ?_
    refine va_put (D := D) (ci := 0) (v := .int (c_next v2.toNatClampNeg)) (ty := .int) (C := RX0) (T := TX0) (N := 10) hx hb hts hiX0 tyX0 tyX0_ok nmX0 hown hK hP hD hS 2 rfl rfl 1 (by decide) f9 (fun _ h9 => h9) rfl (by decide +kernel) rfl rfl (Nat.le_of_ble_eq_true rfl) dX0_react_73 (fun H locs hP hD hS => ?_)
    have hP : va_P D vwCl (CW ad ca c_states c_transitions c_timerEvent c_from c_event c_next c_variable c_relation c_number c_actions c_kind c_a c_b (c_next v2.toNatClampNeg) c_now c_emits c_kept c_ignores c_values c_due c_outputs c_fired c_made c_classes c_size c_taken c_stateClass c_finerClass c_usedBits c_offsets c_owners) H := hP
    have hD : va_D A (CW ad ca c_states c_transitions c_timerEvent c_from c_event c_next c_variable c_relation c_number c_actions c_kind c_a c_b (c_next v2.toNatClampNeg) c_now c_emits c_kept c_ignores c_values c_due c_outputs c_fired c_made c_classes c_size c_taken c_stateClass c_finerClass c_usedBits c_offsets c_owners) := hD
    refine lv_iload_n hx hb dX0_react_76 rfl (lv_at hl 1 rfl) ?_
    obtain rfl := Option.some.inj hf
    subst hZ
    exact pw_ri hx hb hr hlocks hK hP hD hS (Nat.le_of_ble_eq_true rfl) (Nat.le_of_ble_eq_true rfl) dX0_react_77
  have L35 : ∀ n35 : Nat, ∀ (c_emits c_kept : Int32) (c_values : Nat → Int32) (c_due : Nat → Int64) (c_outputs c_fired : Nat → Int32) (v2 v3 : Int32) (H : Heap) (locs : List Loc) (ls : Array Slot), va_P D vwCl (CW ad ca c_states c_transitions c_timerEvent c_from c_event c_next c_variable c_relation c_number c_actions c_kind c_a c_b c_present c_now c_emits c_kept c_ignores c_values c_due c_outputs c_fired c_made c_classes c_size c_taken c_stateClass c_finerClass c_usedBits c_offsets c_owners) H → va_D A (CW ad ca c_states c_transitions c_timerEvent c_from c_event c_next c_variable c_relation c_number c_actions c_kind c_a c_b c_present c_now c_emits c_kept c_ignores c_values c_due c_outputs c_fired c_made c_classes c_size c_taken c_stateClass c_finerClass c_usedBits c_offsets c_owners) → va_S A s.heap H locs → lv_has ls 4 [(0, .ref (ad 2)), (2, .int v2), (3, .int v3)] → X0_react_L35 c_next c_actions c_kind c_a c_b c_now c_ignores n35 c_emits c_kept c_values c_due c_outputs c_fired v2 v3 = some o → W p l e rmX0_react s m args below meth c H locs 0 0 Z (F0 m 35 ls []) := by
    intro n35
    induction n35 with
    | zero =>
      intro c_emits c_kept c_values c_due c_outputs c_fired v2 v3 H locs ls hP hD hS hl hf
      exact pr_n hf
    | succ n35 ih35 =>
      intro c_emits c_kept c_values c_due c_outputs c_fired v2 v3 H locs ls hP hD hS hl hf
      replace hf : X0_react_B35 c_next c_actions c_kind c_a c_b c_now c_ignores (X0_react_L35 c_next c_actions c_kind c_a c_b c_now c_ignores  n35) c_emits c_kept c_values c_due c_outputs c_fired v2 v3 = some o := hf
      unfold X0_react_B35 at hf
      refine lv_iload_n hx hb dX0_react_35 rfl (lv_at hl 2 rfl) ?_
      refine lv_aload_n hx hb dX0_react_36 rfl (lv_at hl 0 rfl) ?_
      refine va_get (D := D) (ci := 0) (v := .ref (ad 1)) (C := RX0) (T := TX0) (N := 10) hx hb hts hiX0 hown hK hP 2 rfl rfl 0 (by decide) f42 (fun _ h9 => h9) rfl dX0_react_37 ?_
      refine va_get (D := D) (ci := 1) (v := .ref (ad 11)) (C := RX1) (T := TX1) (N := 13) hx hb hts hiX1 hown hK hP 1 rfl rfl 9 (by decide) f61 (fun _ h9 => h9) rfl dX0_react_40 ?_
      refine lv_iload_n hx hb dX0_react_43 rfl (lv_at hl 1 rfl) ?_
      obtain ⟨hi44, hf⟩ := pr_in hf
      refine va_iald hx hb hK hP 11 7 rfl rfl hi44 dX0_react_44 ?_
      refine lv_icmp_ge (tgt := 63) hx hb dX0_react_45 (by decide) (fun hc => ?_) (fun hc => ?_)
      · have hf := pr_t hf hc
        exact B63 c_emits c_kept c_values c_due c_outputs c_fired v2 H locs ls hP hD hS (lv_sub hl [0, 1] rfl) hf
      · have hf := pr_f hf hc
        refine lv_aload_n hx hb dX0_react_48 rfl (lv_at hl 0 rfl) ?_
        refine lv_iconst (v := (3 : Int32)) hx hb dX0_react_49 (by decide) ?_
        refine lv_iload_n hx hb dX0_react_50 rfl (lv_at hl 1 rfl) ?_
        refine lv_imul hx hb dX0_react_51 ?_
        refine lv_iload_n hx hb dX0_react_52 rfl (lv_at hl 2 rfl) ?_
        refine lv_iadd hx hb dX0_react_53 ?_
        obtain ⟨x54, hg54, hf⟩ := pr_b hf
        refine pw_cVvW (b := ad 2) (As := [.int (((3 : Int32) * v2) + v3)]) (rest := []) ⟨hx, hb, hml, hown, hts⟩ (c_X0_act (D := D) c_states c_transitions c_timerEvent c_from c_event c_next c_variable c_relation c_number c_actions c_kind c_a c_b c_present c_now c_emits c_kept c_ignores c_values c_due c_outputs c_fired c_made c_classes c_size c_taken c_stateClass c_finerClass c_usedBits c_offsets c_owners (((3 : Int32) * v2) + v3) hg54) (cwV 1 hts gX0_react_X0_act rfl rfl rfl (by decide +kernel) ⟨Nat.le_of_ble_eq_true rfl, Nat.le_of_ble_eq_true rfl⟩) 2 0 rfl rfl hK hP hD hS hA rfl hl.1 rfl (Nat.le_of_ble_eq_true rfl) dX0_react_54 ⟨Nat.le_of_ble_eq_true rfl, Nat.le_of_ble_eq_true rfl⟩ (fun H locs hP hD hS => ?_)
        have hP : va_P D vwCl (CW ad ca c_states c_transitions c_timerEvent c_from c_event c_next c_variable c_relation c_number c_actions c_kind c_a c_b c_present c_now x54.1 x54.2.1 c_ignores x54.2.2.1 x54.2.2.2.1 x54.2.2.2.2 c_fired c_made c_classes c_size c_taken c_stateClass c_finerClass c_usedBits c_offsets c_owners) H := hP
        have hD : va_D A (CW ad ca c_states c_transitions c_timerEvent c_from c_event c_next c_variable c_relation c_number c_actions c_kind c_a c_b c_present c_now x54.1 x54.2.1 c_ignores x54.2.2.1 x54.2.2.2.1 x54.2.2.2.2 c_fired c_made c_classes c_size c_taken c_stateClass c_finerClass c_usedBits c_offsets c_owners) := hD
        refine lv_iinc (v := (v3 + (1 : Int32))) (lv' := [(3, .int (v3 + (1 : Int32))), (0, .ref (ad 2)), (2, .int v2)]) hx hb dX0_react_57 hl (k := 2) rfl rfl (by decide) rfl (fun ls hl => ?_)
        refine lv_goto (tgt := 35) hx hb dX0_react_60 (by decide) ?_
        exact ih35 x54.1 x54.2.1 x54.2.2.1 x54.2.2.2.1 x54.2.2.2.2 c_fired v2 (v3 + (1 : Int32)) H locs ls hP hD hS (lv_sub hl [1, 2, 0] rfl) hf
  unfold X0_react at hf
  refine lv_aload_n hx hb dX0_react_0 rfl (lv_at hl 0 rfl) ?_
  refine lv_iload_n hx hb dX0_react_1 rfl (lv_at hl 1 rfl) ?_
  obtain ⟨x2, hg2, hf⟩ := pr_b hf
  refine pw_cViW (b := ad 2) (As := [.int v1]) (rest := []) ⟨hx, hb, hml, hown, hts⟩ (c_X0_firstTrue fu (D := D) c_states c_transitions c_timerEvent c_from c_event c_next c_variable c_relation c_number c_actions c_kind c_a c_b c_present c_now c_emits c_kept c_ignores c_values c_due c_outputs c_fired c_made c_classes c_size c_taken c_stateClass c_finerClass c_usedBits c_offsets c_owners v1 hg2) (cwV 1 hts gX0_react_X0_firstTrue rfl rfl rfl (by decide +kernel) ⟨Nat.le_of_ble_eq_true rfl, Nat.le_of_ble_eq_true rfl⟩) 2 0 rfl rfl hK hP hD hS hA rfl hl.1 rfl (Nat.le_of_ble_eq_true rfl) dX0_react_2 ⟨Nat.le_of_ble_eq_true rfl, Nat.le_of_ble_eq_true rfl⟩ (fun H locs hP hD hS => ?_)
  refine lv_istore_n (lv' := [(2, .int x2), (0, .ref (ad 2)), (1, .int v1)]) hx hb dX0_react_5 rfl hl (by decide) rfl (fun ls hl => ?_)
  refine lv_iload_n hx hb dX0_react_6 rfl (lv_at hl 0 rfl) ?_
  refine lv_iconst (v := (-1 : Int32)) hx hb dX0_react_7 (by decide) ?_
  refine lv_icmp_ne (tgt := 23) hx hb dX0_react_8 (by decide) (fun hc => ?_) (fun hc => ?_)
  · have hf := pr_f hf hc
    refine lv_aload_n hx hb dX0_react_23 rfl (lv_at hl 1 rfl) ?_
    refine va_get (D := D) (ci := 0) (v := .ref (ad 18)) (C := RX0) (T := TX0) (N := 10) hx hb hts hiX0 hown hK hP 2 rfl rfl 9 (by decide) f39 (fun _ h9 => h9) rfl dX0_react_24 ?_
    refine lv_iload_n hx hb dX0_react_27 rfl (lv_at hl 0 rfl) ?_
    refine lv_dup2_11 hx hb dX0_react_28 rfl rfl ?_
    obtain ⟨hi29, hf⟩ := pr_in hf
    refine va_iald hx hb hK hP 18 14 rfl rfl hi29 dX0_react_29 ?_
    refine lv_iconst (v := (1 : Int32)) hx hb dX0_react_30 (by decide) ?_
    refine lv_iadd hx hb dX0_react_31 ?_
    refine va_iast hx hb hK hP hD hS 18 14 rfl rfl hi29 dX0_react_32 (fun H locs hP hD hS => ?_)
    have hP : va_P D vwCl (CW ad ca c_states c_transitions c_timerEvent c_from c_event c_next c_variable c_relation c_number c_actions c_kind c_a c_b c_present c_now c_emits c_kept c_ignores c_values c_due c_outputs (upd c_fired x2.toNatClampNeg ((c_fired x2.toNatClampNeg) + (1 : Int32))) c_made c_classes c_size c_taken c_stateClass c_finerClass c_usedBits c_offsets c_owners) H := hP
    have hD : va_D A (CW ad ca c_states c_transitions c_timerEvent c_from c_event c_next c_variable c_relation c_number c_actions c_kind c_a c_b c_present c_now c_emits c_kept c_ignores c_values c_due c_outputs (upd c_fired x2.toNatClampNeg ((c_fired x2.toNatClampNeg) + (1 : Int32))) c_made c_classes c_size c_taken c_stateClass c_finerClass c_usedBits c_offsets c_owners) := hD
    refine lv_iconst (v := (0 : Int32)) hx hb dX0_react_33 (by decide) ?_
    refine lv_istore_n (lv' := [(3, .int (0 : Int32)), (2, .int x2), (0, .ref (ad 2)), (1, .int v1)]) hx hb dX0_react_34 rfl hl (by decide) rfl (fun ls hl => ?_)
    exact L35 fu c_emits c_kept c_values c_due c_outputs (upd c_fired x2.toNatClampNeg ((c_fired x2.toNatClampNeg) + (1 : Int32))) x2 (0 : Int32) H locs ls hP hD hS (lv_sub hl [2, 1, 0] rfl) hf
  · have hf := pr_t hf hc
    refine lv_aload_n hx hb dX0_react_11 rfl (lv_at hl 1 rfl) ?_
    refine lv_dup hx hb dX0_react_12 rfl ?_
    refine va_get (D := D) (ci := 0) (v := .int c_ignores) (C := RX0) (T := TX0) (N := 10) hx hb hts hiX0 hown hK hP 2 rfl rfl 5 (by decide) f25 (fun _ h9 => h9) rfl dX0_react_13 ?_
    refine lv_iconst (v := (1 : Int32)) hx hb dX0_react_16 (by decide) ?_
    refine lv_iadd hx hb dX0_react_17 ?_
    refine va_put (D := D) (ci := 0) (v := .int (c_ignores + (1 : Int32))) (ty := .int) (C := RX0) (T := TX0) (N := 10) hx hb hts hiX0 tyX0 tyX0_ok nmX0 hown hK hP hD hS 2 rfl rfl 5 (by decide) f25 (fun _ h9 => h9) rfl (by decide +kernel) rfl rfl (Nat.le_of_ble_eq_true rfl) dX0_react_18 (fun H locs hP hD hS => ?_)
    have hP : va_P D vwCl (CW ad ca c_states c_transitions c_timerEvent c_from c_event c_next c_variable c_relation c_number c_actions c_kind c_a c_b c_present c_now c_emits c_kept (c_ignores + (1 : Int32)) c_values c_due c_outputs c_fired c_made c_classes c_size c_taken c_stateClass c_finerClass c_usedBits c_offsets c_owners) H := hP
    have hD : va_D A (CW ad ca c_states c_transitions c_timerEvent c_from c_event c_next c_variable c_relation c_number c_actions c_kind c_a c_b c_present c_now c_emits c_kept (c_ignores + (1 : Int32)) c_values c_due c_outputs c_fired c_made c_classes c_size c_taken c_stateClass c_finerClass c_usedBits c_offsets c_owners) := hD
    refine lv_iconst (v := (-1 : Int32)) hx hb dX0_react_21 (by decide) ?_
    obtain rfl := Option.some.inj hf
    subst hZ
    exact pw_ri hx hb hr hlocks hK hP hD hS (Nat.le_of_ble_eq_true rfl) (Nat.le_of_ble_eq_true rfl) dX0_react_22
abbrev rmX0_firstDue : Room := { frames := 0, cells := 0, slots := 0, locals := 0 }
set_option maxHeartbeats 4000000 in
set_option maxRecDepth 100000 in
theorem c_X0_firstDue {l : Launch} {D : va_G} {ad : Nat → Nat} {ca : Nat → ClassId} (fu : Nat) (c_states c_transitions : Int32) (c_timerEvent c_from c_event c_next c_variable c_relation c_number c_actions c_kind c_a c_b : Nat → Int32) (c_present : Int32) (c_now : Int64) (c_emits c_kept c_ignores : Int32) (c_values : Nat → Int32) (c_due : Nat → Int64) (c_outputs c_fired : Nat → Int32) (c_made c_classes c_size c_taken : Int32) (c_stateClass c_finerClass c_usedBits c_offsets c_owners : Nat → Int32) (v1 : Int64) {o : Int32} (hf : X0_firstDue fu c_due v1 = some o) : Ci l yX0_firstDue wsX0_firstDue rmX0_firstDue D (CT ca) (CW ad ca c_states c_transitions c_timerEvent c_from c_event c_next c_variable c_relation c_number c_actions c_kind c_a c_b c_present c_now c_emits c_kept c_ignores c_values c_due c_outputs c_fired c_made c_classes c_size c_taken c_stateClass c_finerClass c_usedBits c_offsets c_owners) [.ref (ad 2), .long v1] o (CW ad ca c_states c_transitions c_timerEvent c_from c_event c_next c_variable c_relation c_number c_actions c_kind c_a c_b c_present c_now c_emits c_kept c_ignores c_values c_due c_outputs c_fired c_made c_classes c_size c_taken c_stateClass c_finerClass c_usedBits c_offsets c_owners) := by
  intro sz
  refine pw_entry (Qc := fun A => pw_Qi D (CT ca) (CW ad ca c_states c_transitions c_timerEvent c_from c_event c_next c_variable c_relation c_number c_actions c_kind c_a c_b c_present c_now c_emits c_kept c_ignores c_values c_due c_outputs c_fired c_made c_classes c_size c_taken c_stateClass c_finerClass c_usedBits c_offsets c_owners) A o) (cc := cX0_firstDue) (maxL := 6) (ret := (some .int)) (by decide) rfl (Nat.le_of_ble_eq_true rfl) ?_ sz
  intro p e s m args below meth c A ls Z H locs hx hb hr hlocks hts hown hml hnm hK hP hD hS hA hl hZ
  have hown : s.vm.findClass RX0 = some m.cls := hown
  have hiX0 : ∀ w ∈ u_ws RX0 TX0 10, w ∈ wsX0_firstDue := by decide +kernel
  have f32 := hts (.fieldLink RX0 32 "ProtocolMachine$Execution" "due" "[J") (by decide +kernel)
  have k46 := hts (.constantLong RX0 46 (-1)) (by decide +kernel)
  have hl : lv_has ls 6 [(0, .ref (ad 2)), (1, .long v1)] := hl
  have L5 : ∀ n5 : Nat, ∀ (v3 v4 : Int32) (H : Heap) (locs : List Loc) (ls : Array Slot), va_P D vwCl (CW ad ca c_states c_transitions c_timerEvent c_from c_event c_next c_variable c_relation c_number c_actions c_kind c_a c_b c_present c_now c_emits c_kept c_ignores c_values c_due c_outputs c_fired c_made c_classes c_size c_taken c_stateClass c_finerClass c_usedBits c_offsets c_owners) H → va_D A (CW ad ca c_states c_transitions c_timerEvent c_from c_event c_next c_variable c_relation c_number c_actions c_kind c_a c_b c_present c_now c_emits c_kept c_ignores c_values c_due c_outputs c_fired c_made c_classes c_size c_taken c_stateClass c_finerClass c_usedBits c_offsets c_owners) → va_S A s.heap H locs → lv_has ls 6 [(0, .ref (ad 2)), (1, .long v1), (3, .int v3), (4, .int v4)] → X0_firstDue_L5 c_due v1 n5 v3 v4 = some o → W p l e rmX0_firstDue s m args below meth c H locs 0 0 Z (F0 m 5 ls []) := by
    intro n5
    induction n5 with
    | zero =>
      intro v3 v4 H locs ls hP hD hS hl hf
      exact pr_n hf
    | succ n5 ih5 =>
      have B42 : ∀ (v3 v4 s0 : Int32) (H : Heap) (locs : List Loc) (ls : Array Slot), va_P D vwCl (CW ad ca c_states c_transitions c_timerEvent c_from c_event c_next c_variable c_relation c_number c_actions c_kind c_a c_b c_present c_now c_emits c_kept c_ignores c_values c_due c_outputs c_fired c_made c_classes c_size c_taken c_stateClass c_finerClass c_usedBits c_offsets c_owners) H → va_D A (CW ad ca c_states c_transitions c_timerEvent c_from c_event c_next c_variable c_relation c_number c_actions c_kind c_a c_b c_present c_now c_emits c_kept c_ignores c_values c_due c_outputs c_fired c_made c_classes c_size c_taken c_stateClass c_finerClass c_usedBits c_offsets c_owners) → va_S A s.heap H locs → lv_has ls 6 [(0, .ref (ad 2)), (1, .long v1), (3, .int v3), (4, .int v4)] → X0_firstDue_B42 c_due (X0_firstDue_L5 c_due v1 n5) v3 v4 s0 = some o → W p l e rmX0_firstDue s m args below meth c H locs 0 0 Z (F0 m 42 ls [.int s0]) := by
        intro v3 v4 s0 H locs ls hP hD hS hl hf
        unfold X0_firstDue_B42 at hf
        refine lv_istore (lv' := [(5, .int s0), (0, .ref (ad 2)), (1, .long v1), (3, .int v3), (4, .int v4)]) hx hb dX0_firstDue_42 hl (by decide) rfl (fun ls hl => ?_)
        refine lv_iload hx hb dX0_firstDue_44 (lv_at hl 0 rfl) ?_
        refine lv_if_eq (tgt := 74) hx hb dX0_firstDue_46 (by decide) (fun hc => ?_) (fun hc => ?_)
        · have hf := pr_t hf hc
          refine lv_iinc (v := (v4 + (1 : Int32))) (lv' := [(4, .int (v4 + (1 : Int32))), (5, .int s0), (0, .ref (ad 2)), (1, .long v1), (3, .int v3)]) hx hb dX0_firstDue_74 hl (k := 4) rfl rfl (by decide) rfl (fun ls hl => ?_)
          refine lv_goto (tgt := 5) hx hb dX0_firstDue_77 (by decide) ?_
          exact ih5 v3 (v4 + (1 : Int32)) H locs ls hP hD hS (lv_sub hl [2, 3, 4, 0] rfl) hf
        · have hf := pr_f hf hc
          refine lv_iload_n hx hb dX0_firstDue_49 rfl (lv_at hl 3 rfl) ?_
          refine lv_iconst (v := (-1 : Int32)) hx hb dX0_firstDue_50 (by decide) ?_
          refine lv_icmp_eq (tgt := 71) hx hb dX0_firstDue_51 (by decide) (fun hc => ?_) (fun hc => ?_)
          · have hf := pr_t hf hc
            refine lv_iload hx hb dX0_firstDue_71 (lv_at hl 4 rfl) ?_
            refine lv_istore_n (lv' := [(3, .int v4), (5, .int s0), (0, .ref (ad 2)), (1, .long v1), (4, .int v4)]) hx hb dX0_firstDue_73 rfl hl (by decide) rfl (fun ls hl => ?_)
            refine lv_iinc (v := (v4 + (1 : Int32))) (lv' := [(4, .int (v4 + (1 : Int32))), (3, .int v4), (5, .int s0), (0, .ref (ad 2)), (1, .long v1)]) hx hb dX0_firstDue_74 hl (k := 4) rfl rfl (by decide) rfl (fun ls hl => ?_)
            refine lv_goto (tgt := 5) hx hb dX0_firstDue_77 (by decide) ?_
            exact ih5 v4 (v4 + (1 : Int32)) H locs ls hP hD hS (lv_sub hl [3, 4, 1, 0] rfl) hf
          · have hf := pr_f hf hc
            refine lv_aload_n hx hb dX0_firstDue_54 rfl (lv_at hl 1 rfl) ?_
            refine va_get (D := D) (ci := 0) (v := .ref (ad 16)) (C := RX0) (T := TX0) (N := 10) hx hb hts hiX0 hown hK hP 2 rfl rfl 7 (by decide) f32 (fun _ h9 => h9) rfl dX0_firstDue_55 ?_
            refine lv_iload hx hb dX0_firstDue_58 (lv_at hl 4 rfl) ?_
            obtain ⟨hi60, hf⟩ := pr_in hf
            refine va_lald hx hb hK hP 16 12 rfl rfl hi60 dX0_firstDue_60 ?_
            refine lv_aload_n hx hb dX0_firstDue_61 rfl (lv_at hl 1 rfl) ?_
            refine va_get (D := D) (ci := 0) (v := .ref (ad 16)) (C := RX0) (T := TX0) (N := 10) hx hb hts hiX0 hown hK hP 2 rfl rfl 7 (by decide) f32 (fun _ h9 => h9) rfl dX0_firstDue_62 ?_
            refine lv_iload_n hx hb dX0_firstDue_65 rfl (lv_at hl 3 rfl) ?_
            obtain ⟨hi66, hf⟩ := pr_in hf
            refine va_lald hx hb hK hP 16 12 rfl rfl hi66 dX0_firstDue_66 ?_
            refine W.lcmp hx hb dX0_firstDue_67 ?_
            refine lv_if_ge (tgt := 74) hx hb dX0_firstDue_68 (by decide) (fun hc => ?_) (fun hc => ?_)
            · have hf := pr_t hf hc
              refine lv_iinc (v := (v4 + (1 : Int32))) (lv' := [(4, .int (v4 + (1 : Int32))), (5, .int s0), (0, .ref (ad 2)), (1, .long v1), (3, .int v3)]) hx hb dX0_firstDue_74 hl (k := 4) rfl rfl (by decide) rfl (fun ls hl => ?_)
              refine lv_goto (tgt := 5) hx hb dX0_firstDue_77 (by decide) ?_
              exact ih5 v3 (v4 + (1 : Int32)) H locs ls hP hD hS (lv_sub hl [2, 3, 4, 0] rfl) hf
            · have hf := pr_f hf hc
              refine lv_iload hx hb dX0_firstDue_71 (lv_at hl 4 rfl) ?_
              refine lv_istore_n (lv' := [(3, .int v4), (5, .int s0), (0, .ref (ad 2)), (1, .long v1), (4, .int v4)]) hx hb dX0_firstDue_73 rfl hl (by decide) rfl (fun ls hl => ?_)
              refine lv_iinc (v := (v4 + (1 : Int32))) (lv' := [(4, .int (v4 + (1 : Int32))), (3, .int v4), (5, .int s0), (0, .ref (ad 2)), (1, .long v1)]) hx hb dX0_firstDue_74 hl (k := 4) rfl rfl (by decide) rfl (fun ls hl => ?_)
              refine lv_goto (tgt := 5) hx hb dX0_firstDue_77 (by decide) ?_
              exact ih5 v4 (v4 + (1 : Int32)) H locs ls hP hD hS (lv_sub hl [3, 4, 1, 0] rfl) hf
      have B41 : ∀ (v3 v4 : Int32) (H : Heap) (locs : List Loc) (ls : Array Slot), va_P D vwCl (CW ad ca c_states c_transitions c_timerEvent c_from c_event c_next c_variable c_relation c_number c_actions c_kind c_a c_b c_present c_now c_emits c_kept c_ignores c_values c_due c_outputs c_fired c_made c_classes c_size c_taken c_stateClass c_finerClass c_usedBits c_offsets c_owners) H → va_D A (CW ad ca c_states c_transitions c_timerEvent c_from c_event c_next c_variable c_relation c_number c_actions c_kind c_a c_b c_present c_now c_emits c_kept c_ignores c_values c_due c_outputs c_fired c_made c_classes c_size c_taken c_stateClass c_finerClass c_usedBits c_offsets c_owners) → va_S A s.heap H locs → lv_has ls 6 [(0, .ref (ad 2)), (1, .long v1), (3, .int v3), (4, .int v4)] → X0_firstDue_B41 c_due (X0_firstDue_L5 c_due v1 n5) v3 v4 = some o → W p l e rmX0_firstDue s m args below meth c H locs 0 0 Z (F0 m 41 ls []) := by
        intro v3 v4 H locs ls hP hD hS hl hf
        unfold X0_firstDue_B41 at hf
        refine lv_iconst (v := (0 : Int32)) hx hb dX0_firstDue_41 (by decide) ?_
        exact B42 v3 v4 (0 : Int32) H locs ls hP hD hS (lv_sub hl [0, 1, 2, 3] rfl) hf
      intro v3 v4 H locs ls hP hD hS hl hf
      replace hf : X0_firstDue_B5 c_due v1 (X0_firstDue_L5 c_due v1  n5) v3 v4 = some o := hf
      unfold X0_firstDue_B5 at hf
      refine lv_iload hx hb dX0_firstDue_5 (lv_at hl 3 rfl) ?_
      refine lv_iconst (v := (4 : Int32)) hx hb dX0_firstDue_7 (by decide) ?_
      refine lv_icmp_ge (tgt := 80) hx hb dX0_firstDue_8 (by decide) (fun hc => ?_) (fun hc => ?_)
      · have hf := pr_t hf hc
        refine lv_iload_n hx hb dX0_firstDue_80 rfl (lv_at hl 2 rfl) ?_
        obtain rfl := Option.some.inj hf
        subst hZ
        exact pw_ri hx hb hr hlocks hK hP hD hS (Nat.le_of_ble_eq_true rfl) (Nat.le_of_ble_eq_true rfl) dX0_firstDue_81
      · have hf := pr_f hf hc
        refine lv_aload_n hx hb dX0_firstDue_11 rfl (lv_at hl 0 rfl) ?_
        refine va_get (D := D) (ci := 0) (v := .ref (ad 16)) (C := RX0) (T := TX0) (N := 10) hx hb hts hiX0 hown hK hP 2 rfl rfl 7 (by decide) f32 (fun _ h9 => h9) rfl dX0_firstDue_12 ?_
        refine lv_iload hx hb dX0_firstDue_15 (lv_at hl 3 rfl) ?_
        obtain ⟨hi17, hf⟩ := pr_in hf
        refine va_lald hx hb hK hP 16 12 rfl rfl hi17 dX0_firstDue_17 ?_
        refine lv_ldc2 (v := (-1 : Int64)) hx hb hown k46 dX0_firstDue_18 ?_
        refine W.lcmp hx hb dX0_firstDue_21 ?_
        refine lv_if_eq (tgt := 41) hx hb dX0_firstDue_22 (by decide) (fun hc => ?_) (fun hc => ?_)
        · have hf := pr_t hf hc
          exact B41 v3 v4 H locs ls hP hD hS (lv_sub hl [0, 1, 2, 3] rfl) hf
        · have hf := pr_f hf hc
          refine lv_aload_n hx hb dX0_firstDue_25 rfl (lv_at hl 0 rfl) ?_
          refine va_get (D := D) (ci := 0) (v := .ref (ad 16)) (C := RX0) (T := TX0) (N := 10) hx hb hts hiX0 hown hK hP 2 rfl rfl 7 (by decide) f32 (fun _ h9 => h9) rfl dX0_firstDue_26 ?_
          refine lv_iload hx hb dX0_firstDue_29 (lv_at hl 3 rfl) ?_
          refine va_lald hx hb hK hP 16 12 rfl rfl hi17 dX0_firstDue_31 ?_
          refine lv_lload_n hx hb dX0_firstDue_32 rfl (lv_at hl 1 rfl) ?_
          refine W.lcmp hx hb dX0_firstDue_33 ?_
          refine lv_if_gt (tgt := 41) hx hb dX0_firstDue_34 (by decide) (fun hc => ?_) (fun hc => ?_)
          · have hf := pr_t hf hc
            exact B41 v3 v4 H locs ls hP hD hS (lv_sub hl [0, 1, 2, 3] rfl) hf
          · have hf := pr_f hf hc
            refine lv_iconst (v := (1 : Int32)) hx hb dX0_firstDue_37 (by decide) ?_
            refine lv_goto (tgt := 42) hx hb dX0_firstDue_38 (by decide) ?_
            exact B42 v3 v4 (1 : Int32) H locs ls hP hD hS (lv_sub hl [0, 1, 2, 3] rfl) hf
  unfold X0_firstDue at hf
  refine lv_iconst (v := (-1 : Int32)) hx hb dX0_firstDue_0 (by decide) ?_
  refine lv_istore_n (lv' := [(3, .int (-1 : Int32)), (0, .ref (ad 2)), (1, .long v1)]) hx hb dX0_firstDue_1 rfl hl (by decide) rfl (fun ls hl => ?_)
  refine lv_iconst (v := (0 : Int32)) hx hb dX0_firstDue_2 (by decide) ?_
  refine lv_istore (lv' := [(4, .int (0 : Int32)), (3, .int (-1 : Int32)), (0, .ref (ad 2)), (1, .long v1)]) hx hb dX0_firstDue_3 hl (by decide) rfl (fun ls hl => ?_)
  exact L5 fu (-1 : Int32) (0 : Int32) H locs ls hP hD hS (lv_sub hl [2, 3, 1, 0] rfl) hf
abbrev rmX0_goOn : Room := { frames := 4, cells := 0, slots := 0, locals := 89 }
set_option maxHeartbeats 4000000 in
set_option maxRecDepth 100000 in
theorem c_X0_goOn {l : Launch} {D : va_G} {ad : Nat → Nat} {ca : Nat → ClassId} (fu : Nat) (c_states c_transitions : Int32) (c_timerEvent c_from c_event c_next c_variable c_relation c_number c_actions c_kind c_a c_b : Nat → Int32) (c_present : Int32) (c_now : Int64) (c_emits c_kept c_ignores : Int32) (c_values : Nat → Int32) (c_due : Nat → Int64) (c_outputs c_fired : Nat → Int32) (c_made c_classes c_size c_taken : Int32) (c_stateClass c_finerClass c_usedBits c_offsets c_owners : Nat → Int32) (v1 : Int32) {o : Int32 × Int32 × Int64 × Int32 × Int32 × Int32 × (Nat → Int32) × (Nat → Int64) × (Nat → Int32) × (Nat → Int32)} (hf : X0_goOn fu c_transitions c_timerEvent c_from c_event c_next c_variable c_relation c_number c_actions c_kind c_a c_b c_present c_now c_emits c_kept c_ignores c_values c_due c_outputs c_fired v1 = some o) : Ci l yX0_goOn wsX0_goOn rmX0_goOn D (CT ca) (CW ad ca c_states c_transitions c_timerEvent c_from c_event c_next c_variable c_relation c_number c_actions c_kind c_a c_b c_present c_now c_emits c_kept c_ignores c_values c_due c_outputs c_fired c_made c_classes c_size c_taken c_stateClass c_finerClass c_usedBits c_offsets c_owners) [.ref (ad 2), .int v1] o.1 (CW ad ca c_states c_transitions c_timerEvent c_from c_event c_next c_variable c_relation c_number c_actions c_kind c_a c_b o.2.1 o.2.2.1 o.2.2.2.1 o.2.2.2.2.1 o.2.2.2.2.2.1 o.2.2.2.2.2.2.1 o.2.2.2.2.2.2.2.1 o.2.2.2.2.2.2.2.2.1 o.2.2.2.2.2.2.2.2.2 c_made c_classes c_size c_taken c_stateClass c_finerClass c_usedBits c_offsets c_owners) := by
  intro sz
  refine pw_entry (Qc := fun A => pw_Qi D (CT ca) (CW ad ca c_states c_transitions c_timerEvent c_from c_event c_next c_variable c_relation c_number c_actions c_kind c_a c_b o.2.1 o.2.2.1 o.2.2.2.1 o.2.2.2.2.1 o.2.2.2.2.2.1 o.2.2.2.2.2.2.1 o.2.2.2.2.2.2.2.1 o.2.2.2.2.2.2.2.2.1 o.2.2.2.2.2.2.2.2.2 c_made c_classes c_size c_taken c_stateClass c_finerClass c_usedBits c_offsets c_owners) A o.1) (cc := cX0_goOn) (maxL := 6) (ret := (some .int)) (by decide) rfl (Nat.le_of_ble_eq_true rfl) ?_ sz
  intro p e s m args below meth c A ls Z H locs hx hb hr hlocks hts hown hml hnm hK hP hD hS hA hl hZ
  have hown : s.vm.findClass RX0 = some m.cls := hown
  have hiX0 : ∀ w ∈ u_ws RX0 TX0 10, w ∈ wsX0_goOn := by decide +kernel
  have hiX1 : ∀ w ∈ u_ws RX1 TX1 13, w ∈ wsX0_goOn := by decide +kernel
  have f115 := hts (.fieldLink RX0 115 "ProtocolMachine$Protocol" "timerEvent" "[I") (by decide +kernel)
  have f15 := hts (.fieldLink RX0 15 "ProtocolMachine$Execution" "now" "J") (by decide +kernel)
  have f32 := hts (.fieldLink RX0 32 "ProtocolMachine$Execution" "due" "[J") (by decide +kernel)
  have f42 := hts (.fieldLink RX0 42 "ProtocolMachine$Execution" "protocol" "LProtocolMachine$Protocol;") (by decide +kernel)
  have k46 := hts (.constantLong RX0 46 (-1)) (by decide +kernel)
  have hl : lv_has ls 6 [(0, .ref (ad 2)), (1, .int v1)] := hl
  have L18 : ∀ n18 : Nat, ∀ (c_present : Int32) (c_now : Int64) (c_emits c_kept c_ignores : Int32) (c_values : Nat → Int32) (c_due : Nat → Int64) (c_outputs c_fired : Nat → Int32) (v2 : Int64) (v4 v5 : Int32) (H : Heap) (locs : List Loc) (ls : Array Slot), va_P D vwCl (CW ad ca c_states c_transitions c_timerEvent c_from c_event c_next c_variable c_relation c_number c_actions c_kind c_a c_b c_present c_now c_emits c_kept c_ignores c_values c_due c_outputs c_fired c_made c_classes c_size c_taken c_stateClass c_finerClass c_usedBits c_offsets c_owners) H → va_D A (CW ad ca c_states c_transitions c_timerEvent c_from c_event c_next c_variable c_relation c_number c_actions c_kind c_a c_b c_present c_now c_emits c_kept c_ignores c_values c_due c_outputs c_fired c_made c_classes c_size c_taken c_stateClass c_finerClass c_usedBits c_offsets c_owners) → va_S A s.heap H locs → lv_has ls 6 [(0, .ref (ad 2)), (2, .long v2), (4, .int v4), (5, .int v5)] → X0_goOn_L18 fu c_transitions c_timerEvent c_from c_event c_next c_variable c_relation c_number c_actions c_kind c_a c_b n18 c_present c_now c_emits c_kept c_ignores c_values c_due c_outputs c_fired v2 v4 v5 = some o → W p l e rmX0_goOn s m args below meth c H locs 0 0 Z (F0 m 18 ls []) := by
    intro n18
    induction n18 with
    | zero =>
      intro c_present c_now c_emits c_kept c_ignores c_values c_due c_outputs c_fired v2 v4 v5 H locs ls hP hD hS hl hf
      exact pr_n hf
    | succ n18 ih18 =>
      intro c_present c_now c_emits c_kept c_ignores c_values c_due c_outputs c_fired v2 v4 v5 H locs ls hP hD hS hl hf
      replace hf : X0_goOn_B18 fu c_transitions c_timerEvent c_from c_event c_next c_variable c_relation c_number c_actions c_kind c_a c_b (X0_goOn_L18 fu c_transitions c_timerEvent c_from c_event c_next c_variable c_relation c_number c_actions c_kind c_a c_b  n18) c_present c_now c_emits c_kept c_ignores c_values c_due c_outputs c_fired v2 v4 v5 = some o := hf
      unfold X0_goOn_B18 at hf
      refine lv_iload hx hb dX0_goOn_18 (lv_at hl 3 rfl) ?_
      refine lv_iconst (v := (-1 : Int32)) hx hb dX0_goOn_20 (by decide) ?_
      refine lv_icmp_eq (tgt := 81) hx hb dX0_goOn_21 (by decide) (fun hc => ?_) (fun hc => ?_)
      · have hf := pr_t hf hc
        refine lv_aload_n hx hb dX0_goOn_81 rfl (lv_at hl 0 rfl) ?_
        refine lv_lload_n hx hb dX0_goOn_82 rfl (lv_at hl 1 rfl) ?_
        refine va_put (D := D) (ci := 0) (v := .long v2) (ty := .long) (C := RX0) (T := TX0) (N := 10) hx hb hts hiX0 tyX0 tyX0_ok nmX0 hown hK hP hD hS 2 rfl rfl 2 (by decide) f15 (fun _ h9 => h9) rfl (by decide +kernel) rfl rfl (Nat.le_of_ble_eq_true rfl) dX0_goOn_83 (fun H locs hP hD hS => ?_)
        have hP : va_P D vwCl (CW ad ca c_states c_transitions c_timerEvent c_from c_event c_next c_variable c_relation c_number c_actions c_kind c_a c_b c_present v2 c_emits c_kept c_ignores c_values c_due c_outputs c_fired c_made c_classes c_size c_taken c_stateClass c_finerClass c_usedBits c_offsets c_owners) H := hP
        have hD : va_D A (CW ad ca c_states c_transitions c_timerEvent c_from c_event c_next c_variable c_relation c_number c_actions c_kind c_a c_b c_present v2 c_emits c_kept c_ignores c_values c_due c_outputs c_fired c_made c_classes c_size c_taken c_stateClass c_finerClass c_usedBits c_offsets c_owners) := hD
        refine lv_iload hx hb dX0_goOn_86 (lv_at hl 2 rfl) ?_
        obtain rfl := Option.some.inj hf
        subst hZ
        exact pw_ri hx hb hr hlocks hK hP hD hS (Nat.le_of_ble_eq_true rfl) (Nat.le_of_ble_eq_true rfl) dX0_goOn_88
      · have hf := pr_f hf hc
        refine lv_iload hx hb dX0_goOn_24 (lv_at hl 2 rfl) ?_
        refine lv_sipush (v := (4000 : Int32)) hx hb dX0_goOn_26 (by decide) ?_
        refine lv_icmp_ge (tgt := 81) hx hb dX0_goOn_29 (by decide) (fun hc => ?_) (fun hc => ?_)
        · have hf := pr_t hf hc
          refine lv_aload_n hx hb dX0_goOn_81 rfl (lv_at hl 0 rfl) ?_
          refine lv_lload_n hx hb dX0_goOn_82 rfl (lv_at hl 1 rfl) ?_
          refine va_put (D := D) (ci := 0) (v := .long v2) (ty := .long) (C := RX0) (T := TX0) (N := 10) hx hb hts hiX0 tyX0 tyX0_ok nmX0 hown hK hP hD hS 2 rfl rfl 2 (by decide) f15 (fun _ h9 => h9) rfl (by decide +kernel) rfl rfl (Nat.le_of_ble_eq_true rfl) dX0_goOn_83 (fun H locs hP hD hS => ?_)
          have hP : va_P D vwCl (CW ad ca c_states c_transitions c_timerEvent c_from c_event c_next c_variable c_relation c_number c_actions c_kind c_a c_b c_present v2 c_emits c_kept c_ignores c_values c_due c_outputs c_fired c_made c_classes c_size c_taken c_stateClass c_finerClass c_usedBits c_offsets c_owners) H := hP
          have hD : va_D A (CW ad ca c_states c_transitions c_timerEvent c_from c_event c_next c_variable c_relation c_number c_actions c_kind c_a c_b c_present v2 c_emits c_kept c_ignores c_values c_due c_outputs c_fired c_made c_classes c_size c_taken c_stateClass c_finerClass c_usedBits c_offsets c_owners) := hD
          refine lv_iload hx hb dX0_goOn_86 (lv_at hl 2 rfl) ?_
          obtain rfl := Option.some.inj hf
          subst hZ
          exact pw_ri hx hb hr hlocks hK hP hD hS (Nat.le_of_ble_eq_true rfl) (Nat.le_of_ble_eq_true rfl) dX0_goOn_88
        · have hf := pr_f hf hc
          refine lv_aload_n hx hb dX0_goOn_32 rfl (lv_at hl 0 rfl) ?_
          refine lv_aload_n hx hb dX0_goOn_33 rfl (lv_at hl 0 rfl) ?_
          refine va_get (D := D) (ci := 0) (v := .ref (ad 16)) (C := RX0) (T := TX0) (N := 10) hx hb hts hiX0 hown hK hP 2 rfl rfl 7 (by decide) f32 (fun _ h9 => h9) rfl dX0_goOn_34 ?_
          refine lv_iload hx hb dX0_goOn_37 (lv_at hl 3 rfl) ?_
          obtain ⟨hi39, hf⟩ := pr_in hf
          refine va_lald hx hb hK hP 16 12 rfl rfl hi39 dX0_goOn_39 ?_
          refine va_put (D := D) (ci := 0) (v := .long (c_due v5.toNatClampNeg)) (ty := .long) (C := RX0) (T := TX0) (N := 10) hx hb hts hiX0 tyX0 tyX0_ok nmX0 hown hK hP hD hS 2 rfl rfl 2 (by decide) f15 (fun _ h9 => h9) rfl (by decide +kernel) rfl rfl (Nat.le_of_ble_eq_true rfl) dX0_goOn_40 (fun H locs hP hD hS => ?_)
          have hP : va_P D vwCl (CW ad ca c_states c_transitions c_timerEvent c_from c_event c_next c_variable c_relation c_number c_actions c_kind c_a c_b c_present (c_due v5.toNatClampNeg) c_emits c_kept c_ignores c_values c_due c_outputs c_fired c_made c_classes c_size c_taken c_stateClass c_finerClass c_usedBits c_offsets c_owners) H := hP
          have hD : va_D A (CW ad ca c_states c_transitions c_timerEvent c_from c_event c_next c_variable c_relation c_number c_actions c_kind c_a c_b c_present (c_due v5.toNatClampNeg) c_emits c_kept c_ignores c_values c_due c_outputs c_fired c_made c_classes c_size c_taken c_stateClass c_finerClass c_usedBits c_offsets c_owners) := hD
          refine lv_aload_n hx hb dX0_goOn_43 rfl (lv_at hl 0 rfl) ?_
          refine va_get (D := D) (ci := 0) (v := .ref (ad 16)) (C := RX0) (T := TX0) (N := 10) hx hb hts hiX0 hown hK hP 2 rfl rfl 7 (by decide) f32 (fun _ h9 => h9) rfl dX0_goOn_44 ?_
          refine lv_iload hx hb dX0_goOn_47 (lv_at hl 3 rfl) ?_
          refine lv_ldc2 (v := (-1 : Int64)) hx hb hown k46 dX0_goOn_49 ?_
          refine va_last hx hb hK hP hD hS 16 12 rfl rfl hi39 dX0_goOn_52 (fun H locs hP hD hS => ?_)
          have hP : va_P D vwCl (CW ad ca c_states c_transitions c_timerEvent c_from c_event c_next c_variable c_relation c_number c_actions c_kind c_a c_b c_present (c_due v5.toNatClampNeg) c_emits c_kept c_ignores c_values (vp_updL c_due v5.toNatClampNeg (-1 : Int64)) c_outputs c_fired c_made c_classes c_size c_taken c_stateClass c_finerClass c_usedBits c_offsets c_owners) H := hP
          have hD : va_D A (CW ad ca c_states c_transitions c_timerEvent c_from c_event c_next c_variable c_relation c_number c_actions c_kind c_a c_b c_present (c_due v5.toNatClampNeg) c_emits c_kept c_ignores c_values (vp_updL c_due v5.toNatClampNeg (-1 : Int64)) c_outputs c_fired c_made c_classes c_size c_taken c_stateClass c_finerClass c_usedBits c_offsets c_owners) := hD
          refine lv_aload_n hx hb dX0_goOn_53 rfl (lv_at hl 0 rfl) ?_
          refine lv_aload_n hx hb dX0_goOn_54 rfl (lv_at hl 0 rfl) ?_
          refine va_get (D := D) (ci := 0) (v := .ref (ad 1)) (C := RX0) (T := TX0) (N := 10) hx hb hts hiX0 hown hK hP 2 rfl rfl 0 (by decide) f42 (fun _ h9 => h9) rfl dX0_goOn_55 ?_
          refine va_get (D := D) (ci := 1) (v := .ref (ad 4)) (C := RX1) (T := TX1) (N := 13) hx hb hts hiX1 hown hK hP 1 rfl rfl 2 (by decide) f115 (fun _ h9 => h9) rfl dX0_goOn_58 ?_
          refine lv_iload hx hb dX0_goOn_61 (lv_at hl 3 rfl) ?_
          refine va_iald hx hb hK hP 4 0 rfl rfl hi39 dX0_goOn_63 ?_
          obtain ⟨x64, hg64, hf⟩ := pr_b hf
          refine pw_cViW (b := ad 2) (As := [.int (c_timerEvent v5.toNatClampNeg)]) (rest := []) ⟨hx, hb, hml, hown, hts⟩ (c_X0_react fu (D := D) c_states c_transitions c_timerEvent c_from c_event c_next c_variable c_relation c_number c_actions c_kind c_a c_b c_present (c_due v5.toNatClampNeg) c_emits c_kept c_ignores c_values (vp_updL c_due v5.toNatClampNeg (-1 : Int64)) c_outputs c_fired c_made c_classes c_size c_taken c_stateClass c_finerClass c_usedBits c_offsets c_owners (c_timerEvent v5.toNatClampNeg) hg64) (cwV 1 hts gX0_goOn_X0_react rfl rfl rfl (by decide +kernel) ⟨Nat.le_of_ble_eq_true rfl, Nat.le_of_ble_eq_true rfl⟩) 2 0 rfl rfl hK hP hD hS hA rfl hl.1 rfl (Nat.le_of_ble_eq_true rfl) dX0_goOn_64 ⟨Nat.le_of_ble_eq_true rfl, Nat.le_of_ble_eq_true rfl⟩ (fun H locs hP hD hS => ?_)
          have hP : va_P D vwCl (CW ad ca c_states c_transitions c_timerEvent c_from c_event c_next c_variable c_relation c_number c_actions c_kind c_a c_b x64.2.1 (c_due v5.toNatClampNeg) x64.2.2.1 x64.2.2.2.1 x64.2.2.2.2.1 x64.2.2.2.2.2.1 x64.2.2.2.2.2.2.1 x64.2.2.2.2.2.2.2.1 x64.2.2.2.2.2.2.2.2 c_made c_classes c_size c_taken c_stateClass c_finerClass c_usedBits c_offsets c_owners) H := hP
          have hD : va_D A (CW ad ca c_states c_transitions c_timerEvent c_from c_event c_next c_variable c_relation c_number c_actions c_kind c_a c_b x64.2.1 (c_due v5.toNatClampNeg) x64.2.2.1 x64.2.2.2.1 x64.2.2.2.2.1 x64.2.2.2.2.2.1 x64.2.2.2.2.2.2.1 x64.2.2.2.2.2.2.2.1 x64.2.2.2.2.2.2.2.2 c_made c_classes c_size c_taken c_stateClass c_finerClass c_usedBits c_offsets c_owners) := hD
          refine lv_pop hx hb dX0_goOn_67 rfl ?_
          refine lv_iinc (v := (v4 + (1 : Int32))) (lv' := [(4, .int (v4 + (1 : Int32))), (0, .ref (ad 2)), (2, .long v2), (5, .int v5)]) hx hb dX0_goOn_68 hl (k := 2) rfl rfl (by decide) rfl (fun ls hl => ?_)
          refine lv_aload_n hx hb dX0_goOn_71 rfl (lv_at hl 1 rfl) ?_
          refine lv_lload_n hx hb dX0_goOn_72 rfl (lv_at hl 2 rfl) ?_
          obtain ⟨x73, hg73, hf⟩ := pr_b hf
          refine pw_cViW (b := ad 2) (As := [.long v2]) (rest := []) ⟨hx, hb, hml, hown, hts⟩ (c_X0_firstDue fu (D := D) c_states c_transitions c_timerEvent c_from c_event c_next c_variable c_relation c_number c_actions c_kind c_a c_b x64.2.1 (c_due v5.toNatClampNeg) x64.2.2.1 x64.2.2.2.1 x64.2.2.2.2.1 x64.2.2.2.2.2.1 x64.2.2.2.2.2.2.1 x64.2.2.2.2.2.2.2.1 x64.2.2.2.2.2.2.2.2 c_made c_classes c_size c_taken c_stateClass c_finerClass c_usedBits c_offsets c_owners v2 hg73) (cwV 1 hts gX0_goOn_X0_firstDue rfl rfl rfl (by decide +kernel) ⟨Nat.le_of_ble_eq_true rfl, Nat.le_of_ble_eq_true rfl⟩) 2 0 rfl rfl hK hP hD hS hA rfl hl.1 rfl (Nat.le_of_ble_eq_true rfl) dX0_goOn_73 ⟨Nat.le_of_ble_eq_true rfl, Nat.le_of_ble_eq_true rfl⟩ (fun H locs hP hD hS => ?_)
          refine lv_istore (lv' := [(5, .int x73), (4, .int (v4 + (1 : Int32))), (0, .ref (ad 2)), (2, .long v2)]) hx hb dX0_goOn_76 hl (by decide) rfl (fun ls hl => ?_)
          refine lv_goto (tgt := 18) hx hb dX0_goOn_78 (by decide) ?_
          exact ih18 x64.2.1 (c_due v5.toNatClampNeg) x64.2.2.1 x64.2.2.2.1 x64.2.2.2.2.1 x64.2.2.2.2.2.1 x64.2.2.2.2.2.2.1 x64.2.2.2.2.2.2.2.1 x64.2.2.2.2.2.2.2.2 v2 (v4 + (1 : Int32)) x73 H locs ls hP hD hS (lv_sub hl [2, 3, 1, 0] rfl) hf
  unfold X0_goOn at hf
  refine lv_aload_n hx hb dX0_goOn_0 rfl (lv_at hl 0 rfl) ?_
  refine va_get (D := D) (ci := 0) (v := .long c_now) (C := RX0) (T := TX0) (N := 10) hx hb hts hiX0 hown hK hP 2 rfl rfl 2 (by decide) f15 (fun _ h9 => h9) rfl dX0_goOn_1 ?_
  refine lv_iload_n hx hb dX0_goOn_4 rfl (lv_at hl 1 rfl) ?_
  refine lv_i2l (v := v1.toInt64) hx hb dX0_goOn_5 rfl ?_
  refine lv_ladd hx hb dX0_goOn_6 ?_
  refine lv_lstore_n (lv' := [(2, .long (c_now + v1.toInt64)), (0, .ref (ad 2)), (1, .int v1)]) hx hb dX0_goOn_7 rfl hl (by decide) rfl (fun ls hl => ?_)
  refine lv_iconst (v := (0 : Int32)) hx hb dX0_goOn_8 (by decide) ?_
  refine lv_istore (lv' := [(4, .int (0 : Int32)), (2, .long (c_now + v1.toInt64)), (0, .ref (ad 2)), (1, .int v1)]) hx hb dX0_goOn_9 hl (by decide) rfl (fun ls hl => ?_)
  refine lv_aload_n hx hb dX0_goOn_11 rfl (lv_at hl 2 rfl) ?_
  refine lv_lload_n hx hb dX0_goOn_12 rfl (lv_at hl 1 rfl) ?_
  obtain ⟨x13, hg13, hf⟩ := pr_b hf
  refine pw_cViW (b := ad 2) (As := [.long (c_now + v1.toInt64)]) (rest := []) ⟨hx, hb, hml, hown, hts⟩ (c_X0_firstDue fu (D := D) c_states c_transitions c_timerEvent c_from c_event c_next c_variable c_relation c_number c_actions c_kind c_a c_b c_present c_now c_emits c_kept c_ignores c_values c_due c_outputs c_fired c_made c_classes c_size c_taken c_stateClass c_finerClass c_usedBits c_offsets c_owners (c_now + v1.toInt64) hg13) (cwV 1 hts gX0_goOn_X0_firstDue rfl rfl rfl (by decide +kernel) ⟨Nat.le_of_ble_eq_true rfl, Nat.le_of_ble_eq_true rfl⟩) 2 0 rfl rfl hK hP hD hS hA rfl hl.1 rfl (Nat.le_of_ble_eq_true rfl) dX0_goOn_13 ⟨Nat.le_of_ble_eq_true rfl, Nat.le_of_ble_eq_true rfl⟩ (fun H locs hP hD hS => ?_)
  refine lv_istore (lv' := [(5, .int x13), (4, .int (0 : Int32)), (2, .long (c_now + v1.toInt64)), (0, .ref (ad 2)), (1, .int v1)]) hx hb dX0_goOn_16 hl (by decide) rfl (fun ls hl => ?_)
  exact L18 fu c_present c_now c_emits c_kept c_ignores c_values c_due c_outputs c_fired (c_now + v1.toInt64) (0 : Int32) x13 H locs ls hP hD hS (lv_sub hl [3, 2, 1, 0] rfl) hf
