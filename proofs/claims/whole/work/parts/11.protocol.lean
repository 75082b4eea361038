abbrev rmX1_firstBehind : Room := { frames := 0, cells := 0, slots := 0, locals := 0 }
set_option maxHeartbeats 4000000 in
set_option maxRecDepth 100000 in
theorem c_X1_firstBehind {l : Launch} {D : va_G} {ad : Nat → Nat} {ca : Nat → ClassId} (fu : Nat) (c_states c_transitions : Int32) (c_timerEvent c_from c_event c_next c_variable c_relation c_number c_actions c_kind c_a c_b : Nat → Int32) (c_present : Int32) (c_now : Int64) (c_emits c_kept c_ignores : Int32) (c_values : Nat → Int32) (c_due : Nat → Int64) (c_outputs c_fired : Nat → Int32) (c_made c_classes c_size c_taken : Int32) (c_stateClass c_finerClass c_usedBits c_offsets c_owners : Nat → Int32) (v1 v2 v3 : Int32) {o : Int32} (hf : X1_firstBehind fu c_transitions c_from c_event v1 v2 v3 = some o) : Ci l yX1_firstBehind wsX1_firstBehind rmX1_firstBehind D (CT ca) (CW ad ca c_states c_transitions c_timerEvent c_from c_event c_next c_variable c_relation c_number c_actions c_kind c_a c_b c_present c_now c_emits c_kept c_ignores c_values c_due c_outputs c_fired c_made c_classes c_size c_taken c_stateClass c_finerClass c_usedBits c_offsets c_owners) [.ref (ad 1), .int v1, .int v2, .int v3] o (CW ad ca c_states c_transitions c_timerEvent c_from c_event c_next c_variable c_relation c_number c_actions c_kind c_a c_b c_present c_now c_emits c_kept c_ignores c_values c_due c_outputs c_fired c_made c_classes c_size c_taken c_stateClass c_finerClass c_usedBits c_offsets c_owners) := by
  intro sz
  refine pw_entry (Qc := fun A => pw_Qi D (CT ca) (CW ad ca c_states c_transitions c_timerEvent c_from c_event c_next c_variable c_relation c_number c_actions c_kind c_a c_b c_present c_now c_emits c_kept c_ignores c_values c_due c_outputs c_fired c_made c_classes c_size c_taken c_stateClass c_finerClass c_usedBits c_offsets c_owners) A o) (cc := cX1_firstBehind) (maxL := 5) (ret := (some .int)) (by decide) rfl (Nat.le_of_ble_eq_true rfl) ?_ sz
  intro p e s m args below meth c A ls Z H locs hx hb hr hlocks hts hown hml hnm hK hP hD hS hA hl hZ
  have hown : s.vm.findClass RX1 = some m.cls := hown
  have hiX1 : ∀ w ∈ u_ws RX1 TX1 13, w ∈ wsX1_firstBehind := by decide +kernel
  have f15 := hts (.fieldLink RX1 15 "ProtocolMachine$Protocol" "transitions" "I") (by decide +kernel)
  have f22 := hts (.fieldLink RX1 22 "ProtocolMachine$Protocol" "from" "[I") (by decide +kernel)
  have f25 := hts (.fieldLink RX1 25 "ProtocolMachine$Protocol" "event" "[I") (by decide +kernel)
  have hl : lv_has ls 5 [(0, .ref (ad 1)), (1, .int v1), (2, .int v2), (3, .int v3)] := hl
  have L5 : ∀ n5 : Nat, ∀ (v4 : Int32) (H : Heap) (locs : List Loc) (ls : Array Slot), va_P D vwCl (CW ad ca c_states c_transitions c_timerEvent c_from c_event c_next c_variable c_relation c_number c_actions c_kind c_a c_b c_present c_now c_emits c_kept c_ignores c_values c_due c_outputs c_fired c_made c_classes c_size c_taken c_stateClass c_finerClass c_usedBits c_offsets c_owners) H → va_D A (CW ad ca c_states c_transitions c_timerEvent c_from c_event c_next c_variable c_relation c_number c_actions c_kind c_a c_b c_present c_now c_emits c_kept c_ignores c_values c_due c_outputs c_fired c_made c_classes c_size c_taken c_stateClass c_finerClass c_usedBits c_offsets c_owners) → va_S A s.heap H locs → lv_has ls 5 [(0, .ref (ad 1)), (2, .int v2), (3, .int v3), (4, .int v4)] → X1_firstBehind_L5 c_transitions c_from c_event v2 v3 n5 v4 = some o → W p l e rmX1_firstBehind s m args below meth c H locs 0 0 Z (F0 m 5 ls []) := by
    intro n5
    induction n5 with
    | zero =>
      intro v4 H locs ls hP hD hS hl hf
      exact pr_n hf
    | succ n5 ih5 =>
      intro v4 H locs ls hP hD hS hl hf
      replace hf : X1_firstBehind_B5 c_transitions c_from c_event v2 v3 (X1_firstBehind_L5 c_transitions c_from c_event v2 v3  n5) v4 = some o := hf
      unfold X1_firstBehind_B5 at hf
      refine lv_iload hx hb dX1_firstBehind_5 (lv_at hl 3 rfl) ?_
      refine lv_aload_n hx hb dX1_firstBehind_7 rfl (lv_at hl 0 rfl) ?_
      refine va_get (D := D) (ci := 1) (v := .int c_transitions) (C := RX1) (T := TX1) (N := 13) hx hb hts hiX1 hown hK hP 1 rfl rfl 1 (by decide) f15 (fun _ h9 => h9) rfl dX1_firstBehind_8 ?_
      refine lv_icmp_ge (tgt := 45) hx hb dX1_firstBehind_11 (by decide) (fun hc => ?_) (fun hc => ?_)
      · have hf := pr_t hf hc
        refine lv_iconst (v := (-1 : Int32)) hx hb dX1_firstBehind_45 (by decide) ?_
        obtain rfl := Option.some.inj hf
        subst hZ
        exact pw_ri hx hb hr hlocks hK hP hD hS (Nat.le_of_ble_eq_true rfl) (Nat.le_of_ble_eq_true rfl) dX1_firstBehind_46
      · have hf := pr_f hf hc
        refine lv_aload_n hx hb dX1_firstBehind_14 rfl (lv_at hl 0 rfl) ?_
        refine va_get (D := D) (ci := 1) (v := .ref (ad 5)) (C := RX1) (T := TX1) (N := 13) hx hb hts hiX1 hown hK hP 1 rfl rfl 3 (by decide) f22 (fun _ h9 => h9) rfl dX1_firstBehind_15 ?_
        refine lv_iload hx hb dX1_firstBehind_18 (lv_at hl 3 rfl) ?_
        obtain ⟨hi20, hf⟩ := pr_in hf
        refine va_iald hx hb hK hP 5 1 rfl rfl hi20 dX1_firstBehind_20 ?_
        refine lv_iload_n hx hb dX1_firstBehind_21 rfl (lv_at hl 1 rfl) ?_
        refine lv_icmp_ne (tgt := 39) hx hb dX1_firstBehind_22 (by decide) (fun hc => ?_) (fun hc => ?_)
        · have hf := pr_f hf hc
          refine lv_iinc (v := (v4 + (1 : Int32))) (lv' := [(4, .int (v4 + (1 : Int32))), (0, .ref (ad 1)), (2, .int v2), (3, .int v3)]) hx hb dX1_firstBehind_39 hl (k := 3) rfl rfl (by decide) rfl (fun ls hl => ?_)
          refine lv_goto (tgt := 5) hx hb dX1_firstBehind_42 (by decide) ?_
          exact ih5 (v4 + (1 : Int32)) H locs ls hP hD hS (lv_sub hl [1, 2, 3, 0] rfl) hf
        · have hf := pr_t hf hc
          refine lv_aload_n hx hb dX1_firstBehind_25 rfl (lv_at hl 0 rfl) ?_
          refine va_get (D := D) (ci := 1) (v := .ref (ad 6)) (C := RX1) (T := TX1) (N := 13) hx hb hts hiX1 hown hK hP 1 rfl rfl 4 (by decide) f25 (fun _ h9 => h9) rfl dX1_firstBehind_26 ?_
          refine lv_iload hx hb dX1_firstBehind_29 (lv_at hl 3 rfl) ?_
          refine va_iald hx hb hK hP 6 2 rfl rfl hi20 dX1_firstBehind_31 ?_
          refine lv_iload_n hx hb dX1_firstBehind_32 rfl (lv_at hl 2 rfl) ?_
          refine lv_icmp_ne (tgt := 39) hx hb dX1_firstBehind_33 (by decide) (fun hc => ?_) (fun hc => ?_)
          · have hf := pr_f hf hc
            refine lv_iinc (v := (v4 + (1 : Int32))) (lv' := [(4, .int (v4 + (1 : Int32))), (0, .ref (ad 1)), (2, .int v2), (3, .int v3)]) hx hb dX1_firstBehind_39 hl (k := 3) rfl rfl (by decide) rfl (fun ls hl => ?_)
            refine lv_goto (tgt := 5) hx hb dX1_firstBehind_42 (by decide) ?_
            exact ih5 (v4 + (1 : Int32)) H locs ls hP hD hS (lv_sub hl [1, 2, 3, 0] rfl) hf
          · have hf := pr_t hf hc
            refine lv_iload hx hb dX1_firstBehind_36 (lv_at hl 3 rfl) ?_
            obtain rfl := Option.some.inj hf
            subst hZ
            exact pw_ri hx hb hr hlocks hK hP hD hS (Nat.le_of_ble_eq_true rfl) (Nat.le_of_ble_eq_true rfl) dX1_firstBehind_38
  unfold X1_firstBehind at hf
  refine lv_iload_n hx hb dX1_firstBehind_0 rfl (lv_at hl 1 rfl) ?_
  refine lv_iconst (v := (1 : Int32)) hx hb dX1_firstBehind_1 (by decide) ?_
  refine lv_iadd hx hb dX1_firstBehind_2 ?_
  refine lv_istore (lv' := [(4, .int (v1 + (1 : Int32))), (0, .ref (ad 1)), (1, .int v1), (2, .int v2), (3, .int v3)]) hx hb dX1_firstBehind_3 hl (by decide) rfl (fun ls hl => ?_)
  exact L5 fu (v1 + (1 : Int32)) H locs ls hP hD hS (lv_sub hl [1, 3, 4, 0] rfl) hf
abbrev rmX1_lowest : Room := { frames := 0, cells := 0, slots := 0, locals := 0 }
set_option maxHeartbeats 4000000 in
set_option maxRecDepth 100000 in
theorem c_X1_lowest {l : Launch} {D : va_G} {ad : Nat → Nat} {ca : Nat → ClassId} (c_states c_transitions : Int32) (c_timerEvent c_from c_event c_next c_variable c_relation c_number c_actions c_kind c_a c_b : Nat → Int32) (c_present : Int32) (c_now : Int64) (c_emits c_kept c_ignores : Int32) (c_values : Nat → Int32) (c_due : Nat → Int64) (c_outputs c_fired : Nat → Int32) (c_made c_classes c_size c_taken : Int32) (c_stateClass c_finerClass c_usedBits c_offsets c_owners : Nat → Int32) (v1 : Int32) {o : Int32} (hf : X1_lowest c_relation c_number v1 = some o) : Ci l yX1_lowest wsX1_lowest rmX1_lowest D (CT ca) (CW ad ca c_states c_transitions c_timerEvent c_from c_event c_next c_variable c_relation c_number c_actions c_kind c_a c_b c_present c_now c_emits c_kept c_ignores c_values c_due c_outputs c_fired c_made c_classes c_size c_taken c_stateClass c_finerClass c_usedBits c_offsets c_owners) [.ref (ad 1), .int v1] o (CW ad ca c_states c_transitions c_timerEvent c_from c_event c_next c_variable c_relation c_number c_actions c_kind c_a c_b c_present c_now c_emits c_kept c_ignores c_values c_due c_outputs c_fired c_made c_classes c_size c_taken c_stateClass c_finerClass c_usedBits c_offsets c_owners) := by
  intro sz
  refine pw_entry (Qc := fun A => pw_Qi D (CT ca) (CW ad ca c_states c_transitions c_timerEvent c_from c_event c_next c_variable c_relation c_number c_actions c_kind c_a c_b c_present c_now c_emits c_kept c_ignores c_values c_due c_outputs c_fired c_made c_classes c_size c_taken c_stateClass c_finerClass c_usedBits c_offsets c_owners) A o) (cc := cX1_lowest) (maxL := 2) (ret := (some .int)) (by decide) rfl (Nat.le_of_ble_eq_true rfl) ?_ sz
  intro p e s m args below meth c A ls Z H locs hx hb hr hlocks hts hown hml hnm hK hP hD hS hA hl hZ
  have hown : s.vm.findClass RX1 = some m.cls := hown
  have hiX1 : ∀ w ∈ u_ws RX1 TX1 13, w ∈ wsX1_lowest := by decide +kernel
  have f34 := hts (.fieldLink RX1 34 "ProtocolMachine$Protocol" "relation" "[I") (by decide +kernel)
  have f37 := hts (.fieldLink RX1 37 "ProtocolMachine$Protocol" "number" "[I") (by decide +kernel)
  have hl : lv_has ls 2 [(0, .ref (ad 1)), (1, .int v1)] := hl
  unfold X1_lowest at hf
  refine lv_aload_n hx hb dX1_lowest_0 rfl (lv_at hl 0 rfl) ?_
  refine va_get (D := D) (ci := 1) (v := .ref (ad 9)) (C := RX1) (T := TX1) (N := 13) hx hb hts hiX1 hown hK hP 1 rfl rfl 7 (by decide) f34 (fun _ h9 => h9) rfl dX1_lowest_1 ?_
  refine lv_iload_n hx hb dX1_lowest_4 rfl (lv_at hl 1 rfl) ?_
  obtain ⟨hi5, hf⟩ := pr_in hf
  refine va_iald hx hb hK hP 9 5 rfl rfl hi5 dX1_lowest_5 ?_
  by_cases hc0 : (c_relation v1.toNatClampNeg) = (0 : Int32)
  · have hf := pr_t hf hc0
    refine pw_look (off := 26) (tgt := 32) hx hb dX1_lowest_6 hc0 (by decide) (by decide) (by decide) ?_
    refine lv_sipush (v := (-1000 : Int32)) hx hb dX1_lowest_32 (by decide) ?_
    obtain rfl := Option.some.inj hf
    subst hZ
    exact pw_ri hx hb hr hlocks hK hP hD hS (Nat.le_of_ble_eq_true rfl) (Nat.le_of_ble_eq_true rfl) dX1_lowest_35
  have hf := pr_f hf hc0
  by_cases hc1 : (c_relation v1.toNatClampNeg) = (1 : Int32)
  · have hf := pr_t hf hc1
    refine pw_look (off := 30) (tgt := 36) hx hb dX1_lowest_6 hc1 (by decide) (by decide) (by decide) ?_
    refine lv_aload_n hx hb dX1_lowest_36 rfl (lv_at hl 0 rfl) ?_
    refine va_get (D := D) (ci := 1) (v := .ref (ad 10)) (C := RX1) (T := TX1) (N := 13) hx hb hts hiX1 hown hK hP 1 rfl rfl 8 (by decide) f37 (fun _ h9 => h9) rfl dX1_lowest_37 ?_
    refine lv_iload_n hx hb dX1_lowest_40 rfl (lv_at hl 1 rfl) ?_
    refine va_iald hx hb hK hP 10 6 rfl rfl hi5 dX1_lowest_41 ?_
    obtain rfl := Option.some.inj hf
    subst hZ
    exact pw_ri hx hb hr hlocks hK hP hD hS (Nat.le_of_ble_eq_true rfl) (Nat.le_of_ble_eq_true rfl) dX1_lowest_42
  have hf := pr_f hf hc1
  refine lv_lookup (off := 37) (tgt := 43) hx hb dX1_lowest_6 (by decide) (by show Op.lookupswitch.offset [(0, 26), (1, 30)] 37 _ = _; rw [lv_osw hc0 (by decide), lv_osw hc1 (by decide)]; rfl) (by decide) ?_
  refine lv_aload_n hx hb dX1_lowest_43 rfl (lv_at hl 0 rfl) ?_
  refine va_get (D := D) (ci := 1) (v := .ref (ad 10)) (C := RX1) (T := TX1) (N := 13) hx hb hts hiX1 hown hK hP 1 rfl rfl 8 (by decide) f37 (fun _ h9 => h9) rfl dX1_lowest_44 ?_
  refine lv_iload_n hx hb dX1_lowest_47 rfl (lv_at hl 1 rfl) ?_
  refine va_iald hx hb hK hP 10 6 rfl rfl hi5 dX1_lowest_48 ?_
  refine lv_iconst (v := (1 : Int32)) hx hb dX1_lowest_49 (by decide) ?_
  refine lv_iadd hx hb dX1_lowest_50 ?_
  obtain rfl := Option.some.inj hf
  subst hZ
  exact pw_ri hx hb hr hlocks hK hP hD hS (Nat.le_of_ble_eq_true rfl) (Nat.le_of_ble_eq_true rfl) dX1_lowest_51
abbrev rmX1_highest : Room := { frames := 0, cells := 0, slots := 0, locals := 0 }
set_option maxHeartbeats 4000000 in
set_option maxRecDepth 100000 in
theorem c_X1_highest {l : Launch} {D : va_G} {ad : Nat → Nat} {ca : Nat → ClassId} (c_states c_transitions : Int32) (c_timerEvent c_from c_event c_next c_variable c_relation c_number c_actions c_kind c_a c_b : Nat → Int32) (c_present : Int32) (c_now : Int64) (c_emits c_kept c_ignores : Int32) (c_values : Nat → Int32) (c_due : Nat → Int64) (c_outputs c_fired : Nat → Int32) (c_made c_classes c_size c_taken : Int32) (c_stateClass c_finerClass c_usedBits c_offsets c_owners : Nat → Int32) (v1 : Int32) {o : Int32} (hf : X1_highest c_relation c_number v1 = some o) : Ci l yX1_highest wsX1_highest rmX1_highest D (CT ca) (CW ad ca c_states c_transitions c_timerEvent c_from c_event c_next c_variable c_relation c_number c_actions c_kind c_a c_b c_present c_now c_emits c_kept c_ignores c_values c_due c_outputs c_fired c_made c_classes c_size c_taken c_stateClass c_finerClass c_usedBits c_offsets c_owners) [.ref (ad 1), .int v1] o (CW ad ca c_states c_transitions c_timerEvent c_from c_event c_next c_variable c_relation c_number c_actions c_kind c_a c_b c_present c_now c_emits c_kept c_ignores c_values c_due c_outputs c_fired c_made c_classes c_size c_taken c_stateClass c_finerClass c_usedBits c_offsets c_owners) := by
  intro sz
  refine pw_entry (Qc := fun A => pw_Qi D (CT ca) (CW ad ca c_states c_transitions c_timerEvent c_from c_event c_next c_variable c_relation c_number c_actions c_kind c_a c_b c_present c_now c_emits c_kept c_ignores c_values c_due c_outputs c_fired c_made c_classes c_size c_taken c_stateClass c_finerClass c_usedBits c_offsets c_owners) A o) (cc := cX1_highest) (maxL := 2) (ret := (some .int)) (by decide) rfl (Nat.le_of_ble_eq_true rfl) ?_ sz
  intro p e s m args below meth c A ls Z H locs hx hb hr hlocks hts hown hml hnm hK hP hD hS hA hl hZ
  have hown : s.vm.findClass RX1 = some m.cls := hown
  have hiX1 : ∀ w ∈ u_ws RX1 TX1 13, w ∈ wsX1_highest := by decide +kernel
  have f34 := hts (.fieldLink RX1 34 "ProtocolMachine$Protocol" "relation" "[I") (by decide +kernel)
  have f37 := hts (.fieldLink RX1 37 "ProtocolMachine$Protocol" "number" "[I") (by decide +kernel)
  have hl : lv_has ls 2 [(0, .ref (ad 1)), (1, .int v1)] := hl
  unfold X1_highest at hf
  refine lv_aload_n hx hb dX1_highest_0 rfl (lv_at hl 0 rfl) ?_
  refine va_get (D := D) (ci := 1) (v := .ref (ad 9)) (C := RX1) (T := TX1) (N := 13) hx hb hts hiX1 hown hK hP 1 rfl rfl 7 (by decide) f34 (fun _ h9 => h9) rfl dX1_highest_1 ?_
  refine lv_iload_n hx hb dX1_highest_4 rfl (lv_at hl 1 rfl) ?_
  obtain ⟨hi5, hf⟩ := pr_in hf
  refine va_iald hx hb hK hP 9 5 rfl rfl hi5 dX1_highest_5 ?_
  by_cases hc0 : (c_relation v1.toNatClampNeg) = (0 : Int32)
  · have hf := pr_t hf hc0
    refine pw_look (off := 26) (tgt := 32) hx hb dX1_highest_6 hc0 (by decide) (by decide) (by decide) ?_
    refine lv_aload_n hx hb dX1_highest_32 rfl (lv_at hl 0 rfl) ?_
    refine va_get (D := D) (ci := 1) (v := .ref (ad 10)) (C := RX1) (T := TX1) (N := 13) hx hb hts hiX1 hown hK hP 1 rfl rfl 8 (by decide) f37 (fun _ h9 => h9) rfl dX1_highest_33 ?_
    refine lv_iload_n hx hb dX1_highest_36 rfl (lv_at hl 1 rfl) ?_
    refine va_iald hx hb hK hP 10 6 rfl rfl hi5 dX1_highest_37 ?_
    refine lv_iconst (v := (1 : Int32)) hx hb dX1_highest_38 (by decide) ?_
    refine lv_isub hx hb dX1_highest_39 ?_
    obtain rfl := Option.some.inj hf
    subst hZ
    exact pw_ri hx hb hr hlocks hK hP hD hS (Nat.le_of_ble_eq_true rfl) (Nat.le_of_ble_eq_true rfl) dX1_highest_40
  have hf := pr_f hf hc0
  by_cases hc1 : (c_relation v1.toNatClampNeg) = (1 : Int32)
  · have hf := pr_t hf hc1
    refine pw_look (off := 35) (tgt := 41) hx hb dX1_highest_6 hc1 (by decide) (by decide) (by decide) ?_
    refine lv_aload_n hx hb dX1_highest_41 rfl (lv_at hl 0 rfl) ?_
    refine va_get (D := D) (ci := 1) (v := .ref (ad 10)) (C := RX1) (T := TX1) (N := 13) hx hb hts hiX1 hown hK hP 1 rfl rfl 8 (by decide) f37 (fun _ h9 => h9) rfl dX1_highest_42 ?_
    refine lv_iload_n hx hb dX1_highest_45 rfl (lv_at hl 1 rfl) ?_
    refine va_iald hx hb hK hP 10 6 rfl rfl hi5 dX1_highest_46 ?_
    obtain rfl := Option.some.inj hf
    subst hZ
    exact pw_ri hx hb hr hlocks hK hP hD hS (Nat.le_of_ble_eq_true rfl) (Nat.le_of_ble_eq_true rfl) dX1_highest_47
  have hf := pr_f hf hc1
  refine lv_lookup (off := 42) (tgt := 48) hx hb dX1_highest_6 (by decide) (by show Op.lookupswitch.offset [(0, 26), (1, 35)] 42 _ = _; rw [lv_osw hc0 (by decide), lv_osw hc1 (by decide)]; rfl) (by decide) ?_
  refine lv_sipush (v := (1000 : Int32)) hx hb dX1_highest_48 (by decide) ?_
  obtain rfl := Option.some.inj hf
  subst hZ
  exact pw_ri hx hb hr hlocks hK hP hD hS (Nat.le_of_ble_eq_true rfl) (Nat.le_of_ble_eq_true rfl) dX1_highest_51
abbrev rmX1_append : Room := { frames := 0, cells := 0, slots := 0, locals := 0 }
set_option maxHeartbeats 4000000 in
set_option maxRecDepth 100000 in
theorem c_X1_append {l : Launch} {D : va_G} {ad : Nat → Nat} {ca : Nat → ClassId} (c_states c_transitions : Int32) (c_timerEvent c_from c_event c_next c_variable c_relation c_number c_actions c_kind c_a c_b : Nat → Int32) (c_present : Int32) (c_now : Int64) (c_emits c_kept c_ignores : Int32) (c_values : Nat → Int32) (c_due : Nat → Int64) (c_outputs c_fired : Nat → Int32) (c_made c_classes c_size c_taken : Int32) (c_stateClass c_finerClass c_usedBits c_offsets c_owners : Nat → Int32) (v1 v2 v3 : Int32) {o : Int32 × Int32 × (Nat → Int32) × (Nat → Int32) × (Nat → Int32) × (Nat → Int32) × (Nat → Int32) × (Nat → Int32) × (Nat → Int32)} (hf : X1_append c_transitions c_from c_event c_next c_variable c_relation c_number c_actions v1 v2 v3 = some o) : Ci l yX1_append wsX1_append rmX1_append D (CT ca) (CW ad ca c_states c_transitions c_timerEvent c_from c_event c_next c_variable c_relation c_number c_actions c_kind c_a c_b c_present c_now c_emits c_kept c_ignores c_values c_due c_outputs c_fired c_made c_classes c_size c_taken c_stateClass c_finerClass c_usedBits c_offsets c_owners) [.ref (ad 1), .int v1, .int v2, .int v3] o.1 (CW ad ca c_states o.2.1 c_timerEvent o.2.2.1 o.2.2.2.1 o.2.2.2.2.1 o.2.2.2.2.2.1 o.2.2.2.2.2.2.1 o.2.2.2.2.2.2.2.1 o.2.2.2.2.2.2.2.2 c_kind c_a c_b c_present c_now c_emits c_kept c_ignores c_values c_due c_outputs c_fired c_made c_classes c_size c_taken c_stateClass c_finerClass c_usedBits c_offsets c_owners) := by
  intro sz
  refine pw_entry (Qc := fun A => pw_Qi D (CT ca) (CW ad ca c_states o.2.1 c_timerEvent o.2.2.1 o.2.2.2.1 o.2.2.2.2.1 o.2.2.2.2.2.1 o.2.2.2.2.2.2.1 o.2.2.2.2.2.2.2.1 o.2.2.2.2.2.2.2.2 c_kind c_a c_b c_present c_now c_emits c_kept c_ignores c_values c_due c_outputs c_fired c_made c_classes c_size c_taken c_stateClass c_finerClass c_usedBits c_offsets c_owners) A o.1) (cc := cX1_append) (maxL := 5) (ret := (some .int)) (by decide) rfl (Nat.le_of_ble_eq_true rfl) ?_ sz
  intro p e s m args below meth c A ls Z H locs hx hb hr hlocks hts hown hml hnm hK hP hD hS hA hl hZ
  have hown : s.vm.findClass RX1 = some m.cls := hown
  have hiX1 : ∀ w ∈ u_ws RX1 TX1 13, w ∈ wsX1_append := by decide +kernel
  have f15 := hts (.fieldLink RX1 15 "ProtocolMachine$Protocol" "transitions" "I") (by decide +kernel)
  have f22 := hts (.fieldLink RX1 22 "ProtocolMachine$Protocol" "from" "[I") (by decide +kernel)
  have f25 := hts (.fieldLink RX1 25 "ProtocolMachine$Protocol" "event" "[I") (by decide +kernel)
  have f28 := hts (.fieldLink RX1 28 "ProtocolMachine$Protocol" "next" "[I") (by decide +kernel)
  have f31 := hts (.fieldLink RX1 31 "ProtocolMachine$Protocol" "variable" "[I") (by decide +kernel)
  have f34 := hts (.fieldLink RX1 34 "ProtocolMachine$Protocol" "relation" "[I") (by decide +kernel)
  have f37 := hts (.fieldLink RX1 37 "ProtocolMachine$Protocol" "number" "[I") (by decide +kernel)
  have f40 := hts (.fieldLink RX1 40 "ProtocolMachine$Protocol" "actions" "[I") (by decide +kernel)
  have hl : lv_has ls 5 [(0, .ref (ad 1)), (1, .int v1), (2, .int v2), (3, .int v3)] := hl
  unfold X1_append at hf
  refine lv_aload_n hx hb dX1_append_0 rfl (lv_at hl 0 rfl) ?_
  refine va_get (D := D) (ci := 1) (v := .int c_transitions) (C := RX1) (T := TX1) (N := 13) hx hb hts hiX1 hown hK hP 1 rfl rfl 1 (by decide) f15 (fun _ h9 => h9) rfl dX1_append_1 ?_
  refine lv_istore (lv' := [(4, .int c_transitions), (0, .ref (ad 1)), (1, .int v1), (2, .int v2), (3, .int v3)]) hx hb dX1_append_4 hl (by decide) rfl (fun ls hl => ?_)
  refine lv_aload_n hx hb dX1_append_6 rfl (lv_at hl 1 rfl) ?_
  refine va_get (D := D) (ci := 1) (v := .ref (ad 5)) (C := RX1) (T := TX1) (N := 13) hx hb hts hiX1 hown hK hP 1 rfl rfl 3 (by decide) f22 (fun _ h9 => h9) rfl dX1_append_7 ?_
  refine lv_iload hx hb dX1_append_10 (lv_at hl 0 rfl) ?_
  refine lv_iload_n hx hb dX1_append_12 rfl (lv_at hl 2 rfl) ?_
  obtain ⟨hi13, hf⟩ := pr_in hf
  refine va_iast hx hb hK hP hD hS 5 1 rfl rfl hi13 dX1_append_13 (fun H locs hP hD hS => ?_)
  have hP : va_P D vwCl (CW ad ca c_states c_transitions c_timerEvent (upd c_from c_transitions.toNatClampNeg v1) c_event c_next c_variable c_relation c_number c_actions c_kind c_a c_b c_present c_now c_emits c_kept c_ignores c_values c_due c_outputs c_fired c_made c_classes c_size c_taken c_stateClass c_finerClass c_usedBits c_offsets c_owners) H := hP
  have hD : va_D A (CW ad ca c_states c_transitions c_timerEvent (upd c_from c_transitions.toNatClampNeg v1) c_event c_next c_variable c_relation c_number c_actions c_kind c_a c_b c_present c_now c_emits c_kept c_ignores c_values c_due c_outputs c_fired c_made c_classes c_size c_taken c_stateClass c_finerClass c_usedBits c_offsets c_owners) := hD
  refine lv_aload_n hx hb dX1_append_14 rfl (lv_at hl 1 rfl) ?_
  refine va_get (D := D) (ci := 1) (v := .ref (ad 6)) (C := RX1) (T := TX1) (N := 13) hx hb hts hiX1 hown hK hP 1 rfl rfl 4 (by decide) f25 (fun _ h9 => h9) rfl dX1_append_15 ?_
  refine lv_iload hx hb dX1_append_18 (lv_at hl 0 rfl) ?_
  refine lv_iload_n hx hb dX1_append_20 rfl (lv_at hl 3 rfl) ?_
  refine va_iast hx hb hK hP hD hS 6 2 rfl rfl hi13 dX1_append_21 (fun H locs hP hD hS => ?_)
  have hP : va_P D vwCl (CW ad ca c_states c_transitions c_timerEvent (upd c_from c_transitions.toNatClampNeg v1) (upd c_event c_transitions.toNatClampNeg v2) c_next c_variable c_relation c_number c_actions c_kind c_a c_b c_present c_now c_emits c_kept c_ignores c_values c_due c_outputs c_fired c_made c_classes c_size c_taken c_stateClass c_finerClass c_usedBits c_offsets c_owners) H := hP
  have hD : va_D A (CW ad ca c_states c_transitions c_timerEvent (upd c_from c_transitions.toNatClampNeg v1) (upd c_event c_transitions.toNatClampNeg v2) c_next c_variable c_relation c_number c_actions c_kind c_a c_b c_present c_now c_emits c_kept c_ignores c_values c_due c_outputs c_fired c_made c_classes c_size c_taken c_stateClass c_finerClass c_usedBits c_offsets c_owners) := hD
  refine lv_aload_n hx hb dX1_append_22 rfl (lv_at hl 1 rfl) ?_
  refine va_get (D := D) (ci := 1) (v := .ref (ad 7)) (C := RX1) (T := TX1) (N := 13) hx hb hts hiX1 hown hK hP 1 rfl rfl 5 (by decide) f28 (fun _ h9 => h9) rfl dX1_append_23 ?_
  refine lv_iload hx hb dX1_append_26 (lv_at hl 0 rfl) ?_
  refine lv_iload_n hx hb dX1_append_28 rfl (lv_at hl 4 rfl) ?_
  refine va_iast hx hb hK hP hD hS 7 3 rfl rfl hi13 dX1_append_29 (fun H locs hP hD hS => ?_)
  have hP : va_P D vwCl (CW ad ca c_states c_transitions c_timerEvent (upd c_from c_transitions.toNatClampNeg v1) (upd c_event c_transitions.toNatClampNeg v2) (upd c_next c_transitions.toNatClampNeg v3) c_variable c_relation c_number c_actions c_kind c_a c_b c_present c_now c_emits c_kept c_ignores c_values c_due c_outputs c_fired c_made c_classes c_size c_taken c_stateClass c_finerClass c_usedBits c_offsets c_owners) H := hP
  have hD : va_D A (CW ad ca c_states c_transitions c_timerEvent (upd c_from c_transitions.toNatClampNeg v1) (upd c_event c_transitions.toNatClampNeg v2) (upd c_next c_transitions.toNatClampNeg v3) c_variable c_relation c_number c_actions c_kind c_a c_b c_present c_now c_emits c_kept c_ignores c_values c_due c_outputs c_fired c_made c_classes c_size c_taken c_stateClass c_finerClass c_usedBits c_offsets c_owners) := hD
  refine lv_aload_n hx hb dX1_append_30 rfl (lv_at hl 1 rfl) ?_
  refine va_get (D := D) (ci := 1) (v := .ref (ad 8)) (C := RX1) (T := TX1) (N := 13) hx hb hts hiX1 hown hK hP 1 rfl rfl 6 (by decide) f31 (fun _ h9 => h9) rfl dX1_append_31 ?_
  refine lv_iload hx hb dX1_append_34 (lv_at hl 0 rfl) ?_
  refine lv_iconst (v := (-1 : Int32)) hx hb dX1_append_36 (by decide) ?_
  refine va_iast hx hb hK hP hD hS 8 4 rfl rfl hi13 dX1_append_37 (fun H locs hP hD hS => ?_)
  have hP : va_P D vwCl (CW ad ca c_states c_transitions c_timerEvent (upd c_from c_transitions.toNatClampNeg v1) (upd c_event c_transitions.toNatClampNeg v2) (upd c_next c_transitions.toNatClampNeg v3) (upd c_variable c_transitions.toNatClampNeg (-1 : Int32)) c_relation c_number c_actions c_kind c_a c_b c_present c_now c_emits c_kept c_ignores c_values c_due c_outputs c_fired c_made c_classes c_size c_taken c_stateClass c_finerClass c_usedBits c_offsets c_owners) H := hP
  have hD : va_D A (CW ad ca c_states c_transitions c_timerEvent (upd c_from c_transitions.toNatClampNeg v1) (upd c_event c_transitions.toNatClampNeg v2) (upd c_next c_transitions.toNatClampNeg v3) (upd c_variable c_transitions.toNatClampNeg (-1 : Int32)) c_relation c_number c_actions c_kind c_a c_b c_present c_now c_emits c_kept c_ignores c_values c_due c_outputs c_fired c_made c_classes c_size c_taken c_stateClass c_finerClass c_usedBits c_offsets c_owners) := hD
  refine lv_aload_n hx hb dX1_append_38 rfl (lv_at hl 1 rfl) ?_
  refine va_get (D := D) (ci := 1) (v := .ref (ad 9)) (C := RX1) (T := TX1) (N := 13) hx hb hts hiX1 hown hK hP 1 rfl rfl 7 (by decide) f34 (fun _ h9 => h9) rfl dX1_append_39 ?_
  refine lv_iload hx hb dX1_append_42 (lv_at hl 0 rfl) ?_
  refine lv_iconst (v := (0 : Int32)) hx hb dX1_append_44 (by decide) ?_
  refine va_iast hx hb hK hP hD hS 9 5 rfl rfl hi13 dX1_append_45 (fun H locs hP hD hS => ?_)
  have hP : va_P D vwCl (CW ad ca c_states c_transitions c_timerEvent (upd c_from c_transitions.toNatClampNeg v1) (upd c_event c_transitions.toNatClampNeg v2) (upd c_next c_transitions.toNatClampNeg v3) (upd c_variable c_transitions.toNatClampNeg (-1 : Int32)) (upd c_relation c_transitions.toNatClampNeg (0 : Int32)) c_number c_actions c_kind c_a c_b c_present c_now c_emits c_kept c_ignores c_values c_due c_outputs c_fired c_made c_classes c_size c_taken c_stateClass c_finerClass c_usedBits c_offsets c_owners) H := hP
  have hD : va_D A (CW ad ca c_states c_transitions c_timerEvent (upd c_from c_transitions.toNatClampNeg v1) (upd c_event c_transitions.toNatClampNeg v2) (upd c_next c_transitions.toNatClampNeg v3) (upd c_variable c_transitions.toNatClampNeg (-1 : Int32)) (upd c_relation c_transitions.toNatClampNeg (0 : Int32)) c_number c_actions c_kind c_a c_b c_present c_now c_emits c_kept c_ignores c_values c_due c_outputs c_fired c_made c_classes c_size c_taken c_stateClass c_finerClass c_usedBits c_offsets c_owners) := hD
  refine lv_aload_n hx hb dX1_append_46 rfl (lv_at hl 1 rfl) ?_
  refine va_get (D := D) (ci := 1) (v := .ref (ad 10)) (C := RX1) (T := TX1) (N := 13) hx hb hts hiX1 hown hK hP 1 rfl rfl 8 (by decide) f37 (fun _ h9 => h9) rfl dX1_append_47 ?_
  refine lv_iload hx hb dX1_append_50 (lv_at hl 0 rfl) ?_
  refine lv_iconst (v := (0 : Int32)) hx hb dX1_append_52 (by decide) ?_
  refine va_iast hx hb hK hP hD hS 10 6 rfl rfl hi13 dX1_append_53 (fun H locs hP hD hS => ?_)
  have hP : va_P D vwCl (CW ad ca c_states c_transitions c_timerEvent (upd c_from c_transitions.toNatClampNeg v1) (upd c_event c_transitions.toNatClampNeg v2) (upd c_next c_transitions.toNatClampNeg v3) (upd c_variable c_transitions.toNatClampNeg (-1 : Int32)) (upd c_relation c_transitions.toNatClampNeg (0 : Int32)) (upd c_number c_transitions.toNatClampNeg (0 : Int32)) c_actions c_kind c_a c_b c_present c_now c_emits c_kept c_ignores c_values c_due c_outputs c_fired c_made c_classes c_size c_taken c_stateClass c_finerClass c_usedBits c_offsets c_owners) H := hP
  have hD : va_D A (CW ad ca c_states c_transitions c_timerEvent (upd c_from c_transitions.toNatClampNeg v1) (upd c_event c_transitions.toNatClampNeg v2) (upd c_next c_transitions.toNatClampNeg v3) (upd c_variable c_transitions.toNatClampNeg (-1 : Int32)) (upd c_relation c_transitions.toNatClampNeg (0 : Int32)) (upd c_number c_transitions.toNatClampNeg (0 : Int32)) c_actions c_kind c_a c_b c_present c_now c_emits c_kept c_ignores c_values c_due c_outputs c_fired c_made c_classes c_size c_taken c_stateClass c_finerClass c_usedBits c_offsets c_owners) := hD
  refine lv_aload_n hx hb dX1_append_54 rfl (lv_at hl 1 rfl) ?_
  refine va_get (D := D) (ci := 1) (v := .ref (ad 11)) (C := RX1) (T := TX1) (N := 13) hx hb hts hiX1 hown hK hP 1 rfl rfl 9 (by decide) f40 (fun _ h9 => h9) rfl dX1_append_55 ?_
  refine lv_iload hx hb dX1_append_58 (lv_at hl 0 rfl) ?_
  refine lv_iconst (v := (0 : Int32)) hx hb dX1_append_60 (by decide) ?_
  refine va_iast hx hb hK hP hD hS 11 7 rfl rfl hi13 dX1_append_61 (fun H locs hP hD hS => ?_)
  have hP : va_P D vwCl (CW ad ca c_states c_transitions c_timerEvent (upd c_from c_transitions.toNatClampNeg v1) (upd c_event c_transitions.toNatClampNeg v2) (upd c_next c_transitions.toNatClampNeg v3) (upd c_variable c_transitions.toNatClampNeg (-1 : Int32)) (upd c_relation c_transitions.toNatClampNeg (0 : Int32)) (upd c_number c_transitions.toNatClampNeg (0 : Int32)) (upd c_actions c_transitions.toNatClampNeg (0 : Int32)) c_kind c_a c_b c_present c_now c_emits c_kept c_ignores c_values c_due c_outputs c_fired c_made c_classes c_size c_taken c_stateClass c_finerClass c_usedBits c_offsets c_owners) H := hP
  have hD : va_D A (CW ad ca c_states c_transitions c_timerEvent (upd c_from c_transitions.toNatClampNeg v1) (upd c_event c_transitions.toNatClampNeg v2) (upd c_next c_transitions.toNatClampNeg v3) (upd c_variable c_transitions.toNatClampNeg (-1 : Int32)) (upd c_relation c_transitions.toNatClampNeg (0 : Int32)) (upd c_number c_transitions.toNatClampNeg (0 : Int32)) (upd c_actions c_transitions.toNatClampNeg (0 : Int32)) c_kind c_a c_b c_present c_now c_emits c_kept c_ignores c_values c_due c_outputs c_fired c_made c_classes c_size c_taken c_stateClass c_finerClass c_usedBits c_offsets c_owners) := hD
  refine lv_aload_n hx hb dX1_append_62 rfl (lv_at hl 1 rfl) ?_
  refine lv_dup hx hb dX1_append_63 rfl ?_
  refine va_get (D := D) (ci := 1) (v := .int c_transitions) (C := RX1) (T := TX1) (N := 13) hx hb hts hiX1 hown hK hP 1 rfl rfl 1 (by decide) f15 (fun _ h9 => h9) rfl dX1_append_64 ?_
  refine lv_iconst (v := (1 : Int32)) hx hb dX1_append_67 (by decide) ?_
  refine lv_iadd hx hb dX1_append_68 ?_
  refine va_put (D := D) (ci := 1) (v := .int (c_transitions + (1 : Int32))) (ty := .int) (C := RX1) (T := TX1) (N := 13) hx hb hts hiX1 tyX1 tyX1_ok nmX1 hown hK hP hD hS 1 rfl rfl 1 (by decide) f15 (fun _ h9 => h9) rfl (by decide +kernel) rfl rfl (Nat.le_of_ble_eq_true rfl) dX1_append_69 (fun H locs hP hD hS => ?_)
  have hP : va_P D vwCl (CW ad ca c_states (c_transitions + (1 : Int32)) c_timerEvent (upd c_from c_transitions.toNatClampNeg v1) (upd c_event c_transitions.toNatClampNeg v2) (upd c_next c_transitions.toNatClampNeg v3) (upd c_variable c_transitions.toNatClampNeg (-1 : Int32)) (upd c_relation c_transitions.toNatClampNeg (0 : Int32)) (upd c_number c_transitions.toNatClampNeg (0 : Int32)) (upd c_actions c_transitions.toNatClampNeg (0 : Int32)) c_kind c_a c_b c_present c_now c_emits c_kept c_ignores c_values c_due c_outputs c_fired c_made c_classes c_size c_taken c_stateClass c_finerClass c_usedBits c_offsets c_owners) H := hP
  have hD : va_D A (CW ad ca c_states (c_transitions + (1 : Int32)) c_timerEvent (upd c_from c_transitions.toNatClampNeg v1) (upd c_event c_transitions.toNatClampNeg v2) (upd c_next c_transitions.toNatClampNeg v3) (upd c_variable c_transitions.toNatClampNeg (-1 : Int32)) (upd c_relation c_transitions.toNatClampNeg (0 : Int32)) (upd c_number c_transitions.toNatClampNeg (0 : Int32)) (upd c_actions c_transitions.toNatClampNeg (0 : Int32)) c_kind c_a c_b c_present c_now c_emits c_kept c_ignores c_values c_due c_outputs c_fired c_made c_classes c_size c_taken c_stateClass c_finerClass c_usedBits c_offsets c_owners) := hD
  refine lv_iload hx hb dX1_append_72 (lv_at hl 0 rfl) ?_
  obtain rfl := Option.some.inj hf
  subst hZ
  exact pw_ri hx hb hr hlocks hK hP hD hS (Nat.le_of_ble_eq_true rfl) (Nat.le_of_ble_eq_true rfl) dX1_append_74
abbrev rmX1_guard : Room := { frames := 0, cells := 0, slots := 0, locals := 0 }
set_option maxHeartbeats 4000000 in
set_option maxRecDepth 100000 in
theorem c_X1_guard {l : Launch} {D : va_G} {ad : Nat → Nat} {ca : Nat → ClassId} (c_states c_transitions : Int32) (c_timerEvent c_from c_event c_next c_variable c_relation c_number c_actions c_kind c_a c_b : Nat → Int32) (c_present : Int32) (c_now : Int64) (c_emits c_kept c_ignores : Int32) (c_values : Nat → Int32) (c_due : Nat → Int64) (c_outputs c_fired : Nat → Int32) (c_made c_classes c_size c_taken : Int32) (c_stateClass c_finerClass c_usedBits c_offsets c_owners : Nat → Int32) (v1 v2 v3 v4 : Int32) {o : (Nat → Int32) × (Nat → Int32) × (Nat → Int32)} (hf : X1_guard c_variable c_relation c_number v1 v2 v3 v4 = some o) : Cv l yX1_guard wsX1_guard rmX1_guard D (CT ca) (CW ad ca c_states c_transitions c_timerEvent c_from c_event c_next c_variable c_relation c_number c_actions c_kind c_a c_b c_present c_now c_emits c_kept c_ignores c_values c_due c_outputs c_fired c_made c_classes c_size c_taken c_stateClass c_finerClass c_usedBits c_offsets c_owners) [.ref (ad 1), .int v1, .int v2, .int v3, .int v4] (CW ad ca c_states c_transitions c_timerEvent c_from c_event c_next o.1 o.2.1 o.2.2 c_actions c_kind c_a c_b c_present c_now c_emits c_kept c_ignores c_values c_due c_outputs c_fired c_made c_classes c_size c_taken c_stateClass c_finerClass c_usedBits c_offsets c_owners) := by
  intro sz
  refine pw_entry (Qc := fun A => pw_Qv D (CT ca) (CW ad ca c_states c_transitions c_timerEvent c_from c_event c_next o.1 o.2.1 o.2.2 c_actions c_kind c_a c_b c_present c_now c_emits c_kept c_ignores c_values c_due c_outputs c_fired c_made c_classes c_size c_taken c_stateClass c_finerClass c_usedBits c_offsets c_owners) A) (cc := cX1_guard) (maxL := 5) (ret := none) (by decide) rfl (Nat.le_of_ble_eq_true rfl) ?_ sz
  intro p e s m args below meth c A ls Z H locs hx hb hr hlocks hts hown hml hnm hK hP hD hS hA hl hZ
  have hown : s.vm.findClass RX1 = some m.cls := hown
  have hiX1 : ∀ w ∈ u_ws RX1 TX1 13, w ∈ wsX1_guard := by decide +kernel
  have f31 := hts (.fieldLink RX1 31 "ProtocolMachine$Protocol" "variable" "[I") (by decide +kernel)
  have f34 := hts (.fieldLink RX1 34 "ProtocolMachine$Protocol" "relation" "[I") (by decide +kernel)
  have f37 := hts (.fieldLink RX1 37 "ProtocolMachine$Protocol" "number" "[I") (by decide +kernel)
  have hl : lv_has ls 5 [(0, .ref (ad 1)), (1, .int v1), (2, .int v2), (3, .int v3), (4, .int v4)] := hl
  unfold X1_guard at hf
  refine lv_aload_n hx hb dX1_guard_0 rfl (lv_at hl 0 rfl) ?_
  refine va_get (D := D) (ci := 1) (v := .ref (ad 8)) (C := RX1) (T := TX1) (N := 13) hx hb hts hiX1 hown hK hP 1 rfl rfl 6 (by decide) f31 (fun _ h9 => h9) rfl dX1_guard_1 ?_
  refine lv_iload_n hx hb dX1_guard_4 rfl (lv_at hl 1 rfl) ?_
  refine lv_iload_n hx hb dX1_guard_5 rfl (lv_at hl 2 rfl) ?_
  obtain ⟨hi6, hf⟩ := pr_in hf
  refine va_iast hx hb hK hP hD hS 8 4 rfl rfl hi6 dX1_guard_6 (fun H locs hP hD hS => ?_)
  have hP : va_P D vwCl (CW ad ca c_states c_transitions c_timerEvent c_from c_event c_next (upd c_variable v1.toNatClampNeg v2) c_relation c_number c_actions c_kind c_a c_b c_present c_now c_emits c_kept c_ignores c_values c_due c_outputs c_fired c_made c_classes c_size c_taken c_stateClass c_finerClass c_usedBits c_offsets c_owners) H := hP
  have hD : va_D A (CW ad ca c_states c_transitions c_timerEvent c_from c_event c_next (upd c_variable v1.toNatClampNeg v2) c_relation c_number c_actions c_kind c_a c_b c_present c_now c_emits c_kept c_ignores c_values c_due c_outputs c_fired c_made c_classes c_size c_taken c_stateClass c_finerClass c_usedBits c_offsets c_owners) := hD
  refine lv_aload_n hx hb dX1_guard_7 rfl (lv_at hl 0 rfl) ?_
  refine va_get (D := D) (ci := 1) (v := .ref (ad 9)) (C := RX1) (T := TX1) (N := 13) hx hb hts hiX1 hown hK hP 1 rfl rfl 7 (by decide) f34 (fun _ h9 => h9) rfl dX1_guard_8 ?_
  refine lv_iload_n hx hb dX1_guard_11 rfl (lv_at hl 1 rfl) ?_
  refine lv_iload_n hx hb dX1_guard_12 rfl (lv_at hl 3 rfl) ?_
  refine va_iast hx hb hK hP hD hS 9 5 rfl rfl hi6 dX1_guard_13 (fun H locs hP hD hS => ?_)
  have hP : va_P D vwCl (CW ad ca c_states c_transitions c_timerEvent c_from c_event c_next (upd c_variable v1.toNatClampNeg v2) (upd c_relation v1.toNatClampNeg v3) c_number c_actions c_kind c_a c_b c_present c_now c_emits c_kept c_ignores c_values c_due c_outputs c_fired c_made c_classes c_size c_taken c_stateClass c_finerClass c_usedBits c_offsets c_owners) H := hP
  have hD : va_D A (CW ad ca c_states c_transitions c_timerEvent c_from c_event c_next (upd c_variable v1.toNatClampNeg v2) (upd c_relation v1.toNatClampNeg v3) c_number c_actions c_kind c_a c_b c_present c_now c_emits c_kept c_ignores c_values c_due c_outputs c_fired c_made c_classes c_size c_taken c_stateClass c_finerClass c_usedBits c_offsets c_owners) := hD
  refine lv_aload_n hx hb dX1_guard_14 rfl (lv_at hl 0 rfl) ?_
  refine va_get (D := D) (ci := 1) (v := .ref (ad 10)) (C := RX1) (T := TX1) (N := 13) hx hb hts hiX1 hown hK hP 1 rfl rfl 8 (by decide) f37 (fun _ h9 => h9) rfl dX1_guard_15 ?_
  refine lv_iload_n hx hb dX1_guard_18 rfl (lv_at hl 1 rfl) ?_
  refine lv_iload hx hb dX1_guard_19 (lv_at hl 4 rfl) ?_
  refine va_iast hx hb hK hP hD hS 10 6 rfl rfl hi6 dX1_guard_21 (fun H locs hP hD hS => ?_)
  have hP : va_P D vwCl (CW ad ca c_states c_transitions c_timerEvent c_from c_event c_next (upd c_variable v1.toNatClampNeg v2) (upd c_relation v1.toNatClampNeg v3) (upd c_number v1.toNatClampNeg v4) c_actions c_kind c_a c_b c_present c_now c_emits c_kept c_ignores c_values c_due c_outputs c_fired c_made c_classes c_size c_taken c_stateClass c_finerClass c_usedBits c_offsets c_owners) H := hP
  have hD : va_D A (CW ad ca c_states c_transitions c_timerEvent c_from c_event c_next (upd c_variable v1.toNatClampNeg v2) (upd c_relation v1.toNatClampNeg v3) (upd c_number v1.toNatClampNeg v4) c_actions c_kind c_a c_b c_present c_now c_emits c_kept c_ignores c_values c_due c_outputs c_fired c_made c_classes c_size c_taken c_stateClass c_finerClass c_usedBits c_offsets c_owners) := hD
  obtain rfl := Option.some.inj hf
  subst hZ
  exact pw_rv hx hb hr hlocks hK hP hD hS (Nat.le_of_ble_eq_true rfl) (Nat.le_of_ble_eq_true rfl) dX1_guard_22
abbrev rmX1_appendAction : Room := { frames := 0, cells := 0, slots := 0, locals := 0 }
set_option maxHeartbeats 4000000 in
set_option maxRecDepth 100000 in
theorem c_X1_appendAction {l : Launch} {D : va_G} {ad : Nat → Nat} {ca : Nat → ClassId} (c_states c_transitions : Int32) (c_timerEvent c_from c_event c_next c_variable c_relation c_number c_actions c_kind c_a c_b : Nat → Int32) (c_present : Int32) (c_now : Int64) (c_emits c_kept c_ignores : Int32) (c_values : Nat → Int32) (c_due : Nat → Int64) (c_outputs c_fired : Nat → Int32) (c_made c_classes c_size c_taken : Int32) (c_stateClass c_finerClass c_usedBits c_offsets c_owners : Nat → Int32) (v1 v2 v3 v4 : Int32) {o : Int32 × (Nat → Int32) × (Nat → Int32) × (Nat → Int32) × (Nat → Int32)} (hf : X1_appendAction c_actions c_kind c_a c_b v1 v2 v3 v4 = some o) : Ci l yX1_appendAction wsX1_appendAction rmX1_appendAction D (CT ca) (CW ad ca c_states c_transitions c_timerEvent c_from c_event c_next c_variable c_relation c_number c_actions c_kind c_a c_b c_present c_now c_emits c_kept c_ignores c_values c_due c_outputs c_fired c_made c_classes c_size c_taken c_stateClass c_finerClass c_usedBits c_offsets c_owners) [.ref (ad 1), .int v1, .int v2, .int v3, .int v4] o.1 (CW ad ca c_states c_transitions c_timerEvent c_from c_event c_next c_variable c_relation c_number o.2.1 o.2.2.1 o.2.2.2.1 o.2.2.2.2 c_present c_now c_emits c_kept c_ignores c_values c_due c_outputs c_fired c_made c_classes c_size c_taken c_stateClass c_finerClass c_usedBits c_offsets c_owners) := by
  intro sz
  refine pw_entry (Qc := fun A => pw_Qi D (CT ca) (CW ad ca c_states c_transitions c_timerEvent c_from c_event c_next c_variable c_relation c_number o.2.1 o.2.2.1 o.2.2.2.1 o.2.2.2.2 c_present c_now c_emits c_kept c_ignores c_values c_due c_outputs c_fired c_made c_classes c_size c_taken c_stateClass c_finerClass c_usedBits c_offsets c_owners) A o.1) (cc := cX1_appendAction) (maxL := 6) (ret := (some .int)) (by decide) rfl (Nat.le_of_ble_eq_true rfl) ?_ sz
  intro p e s m args below meth c A ls Z H locs hx hb hr hlocks hts hown hml hnm hK hP hD hS hA hl hZ
  have hown : s.vm.findClass RX1 = some m.cls := hown
  have hiX1 : ∀ w ∈ u_ws RX1 TX1 13, w ∈ wsX1_appendAction := by decide +kernel
  have f40 := hts (.fieldLink RX1 40 "ProtocolMachine$Protocol" "actions" "[I") (by decide +kernel)
  have f43 := hts (.fieldLink RX1 43 "ProtocolMachine$Protocol" "kind" "[I") (by decide +kernel)
  have f46 := hts (.fieldLink RX1 46 "ProtocolMachine$Protocol" "a" "[I") (by decide +kernel)
  have f49 := hts (.fieldLink RX1 49 "ProtocolMachine$Protocol" "b" "[I") (by decide +kernel)
  have hl : lv_has ls 6 [(0, .ref (ad 1)), (1, .int v1), (2, .int v2), (3, .int v3), (4, .int v4)] := hl
  have B50 : ∀ (c_kind c_a : Nat → Int32) (s1 s2 : Int32) (H : Heap) (locs : List Loc) (ls : Array Slot), va_P D vwCl (CW ad ca c_states c_transitions c_timerEvent c_from c_event c_next c_variable c_relation c_number c_actions c_kind c_a c_b c_present c_now c_emits c_kept c_ignores c_values c_due c_outputs c_fired c_made c_classes c_size c_taken c_stateClass c_finerClass c_usedBits c_offsets c_owners) H → va_D A (CW ad ca c_states c_transitions c_timerEvent c_from c_event c_next c_variable c_relation c_number c_actions c_kind c_a c_b c_present c_now c_emits c_kept c_ignores c_values c_due c_outputs c_fired c_made c_classes c_size c_taken c_stateClass c_finerClass c_usedBits c_offsets c_owners) → va_S A s.heap H locs → lv_has ls 6 [(0, .ref (ad 1)), (1, .int v1)] → X1_appendAction_B50 c_actions c_b v1 c_kind c_a s1 s2 = some o → W p l e rmX1_appendAction s m args below meth c H locs 0 0 Z (F0 m 50 ls [.int s2, .int s1, .ref (ad 14)]) := by
    intro c_kind c_a s1 s2 H locs ls hP hD hS hl hf
    unfold X1_appendAction_B50 at hf
    obtain ⟨hi50, hf⟩ := pr_in hf
    refine va_iast hx hb hK hP hD hS 14 10 rfl rfl hi50 dX1_appendAction_50 (fun H locs hP hD hS => ?_)
    have hP : va_P D vwCl (CW ad ca c_states c_transitions c_timerEvent c_from c_event c_next c_variable c_relation c_number c_actions c_kind c_a (upd c_b s1.toNatClampNeg s2) c_present c_now c_emits c_kept c_ignores c_values c_due c_outputs c_fired c_made c_classes c_size c_taken c_stateClass c_finerClass c_usedBits c_offsets c_owners) H := hP
    have hD : va_D A (CW ad ca c_states c_transitions c_timerEvent c_from c_event c_next c_variable c_relation c_number c_actions c_kind c_a (upd c_b s1.toNatClampNeg s2) c_present c_now c_emits c_kept c_ignores c_values c_due c_outputs c_fired c_made c_classes c_size c_taken c_stateClass c_finerClass c_usedBits c_offsets c_owners) := hD
    refine lv_aload_n hx hb dX1_appendAction_51 rfl (lv_at hl 0 rfl) ?_
    refine va_get (D := D) (ci := 1) (v := .ref (ad 11)) (C := RX1) (T := TX1) (N := 13) hx hb hts hiX1 hown hK hP 1 rfl rfl 9 (by decide) f40 (fun _ h9 => h9) rfl dX1_appendAction_52 ?_
    refine lv_iload_n hx hb dX1_appendAction_55 rfl (lv_at hl 1 rfl) ?_
    refine lv_dup2_11 hx hb dX1_appendAction_56 rfl rfl ?_
    obtain ⟨hi57, hf⟩ := pr_in hf
    refine va_iald hx hb hK hP 11 7 rfl rfl hi57 dX1_appendAction_57 ?_
    refine lv_iconst (v := (1 : Int32)) hx hb dX1_appendAction_58 (by decide) ?_
    refine lv_iadd hx hb dX1_appendAction_59 ?_
    refine va_iast hx hb hK hP hD hS 11 7 rfl rfl hi57 dX1_appendAction_60 (fun H locs hP hD hS => ?_)
    have hP : va_P D vwCl (CW ad ca c_states c_transitions c_timerEvent c_from c_event c_next c_variable c_relation c_number (upd c_actions v1.toNatClampNeg ((c_actions v1.toNatClampNeg) + (1 : Int32))) c_kind c_a (upd c_b s1.toNatClampNeg s2) c_present c_now c_emits c_kept c_ignores c_values c_due c_outputs c_fired c_made c_classes c_size c_taken c_stateClass c_finerClass c_usedBits c_offsets c_owners) H := hP
    have hD : va_D A (CW ad ca c_states c_transitions c_timerEvent c_from c_event c_next c_variable c_relation c_number (upd c_actions v1.toNatClampNeg ((c_actions v1.toNatClampNeg) + (1 : Int32))) c_kind c_a (upd c_b s1.toNatClampNeg s2) c_present c_now c_emits c_kept c_ignores c_values c_due c_outputs c_fired c_made c_classes c_size c_taken c_stateClass c_finerClass c_usedBits c_offsets c_owners) := hD
    refine lv_aload_n hx hb dX1_appendAction_61 rfl (lv_at hl 0 rfl) ?_
    refine va_get (D := D) (ci := 1) (v := .ref (ad 11)) (C := RX1) (T := TX1) (N := 13) hx hb hts hiX1 hown hK hP 1 rfl rfl 9 (by decide) f40 (fun _ h9 => h9) rfl dX1_appendAction_62 ?_
    refine lv_iload_n hx hb dX1_appendAction_65 rfl (lv_at hl 1 rfl) ?_
    refine va_iald hx hb hK hP 11 7 rfl rfl hi57 dX1_appendAction_66 ?_
    obtain rfl := Option.some.inj hf
    subst hZ
    exact pw_ri hx hb hr hlocks hK hP hD hS (Nat.le_of_ble_eq_true rfl) (Nat.le_of_ble_eq_true rfl) dX1_appendAction_67
  unfold X1_appendAction at hf
  refine lv_iconst (v := (3 : Int32)) hx hb dX1_appendAction_0 (by decide) ?_
  refine lv_iload_n hx hb dX1_appendAction_1 rfl (lv_at hl 1 rfl) ?_
  refine lv_imul hx hb dX1_appendAction_2 ?_
  refine lv_aload_n hx hb dX1_appendAction_3 rfl (lv_at hl 0 rfl) ?_
  refine va_get (D := D) (ci := 1) (v := .ref (ad 11)) (C := RX1) (T := TX1) (N := 13) hx hb hts hiX1 hown hK hP 1 rfl rfl 9 (by decide) f40 (fun _ h9 => h9) rfl dX1_appendAction_4 ?_
  refine lv_iload_n hx hb dX1_appendAction_7 rfl (lv_at hl 1 rfl) ?_
  obtain ⟨hi8, hf⟩ := pr_in hf
  refine va_iald hx hb hK hP 11 7 rfl rfl hi8 dX1_appendAction_8 ?_
  refine lv_iadd hx hb dX1_appendAction_9 ?_
  refine lv_istore (lv' := [(5, .int (((3 : Int32) * v1) + (c_actions v1.toNatClampNeg))), (0, .ref (ad 1)), (1, .int v1), (2, .int v2), (3, .int v3), (4, .int v4)]) hx hb dX1_appendAction_10 hl (by decide) rfl (fun ls hl => ?_)
  refine lv_aload_n hx hb dX1_appendAction_12 rfl (lv_at hl 1 rfl) ?_
  refine va_get (D := D) (ci := 1) (v := .ref (ad 12)) (C := RX1) (T := TX1) (N := 13) hx hb hts hiX1 hown hK hP 1 rfl rfl 10 (by decide) f43 (fun _ h9 => h9) rfl dX1_appendAction_13 ?_
  refine lv_iload hx hb dX1_appendAction_16 (lv_at hl 0 rfl) ?_
  refine lv_iload_n hx hb dX1_appendAction_18 rfl (lv_at hl 3 rfl) ?_
  obtain ⟨hi19, hf⟩ := pr_in hf
  refine va_iast hx hb hK hP hD hS 12 8 rfl rfl hi19 dX1_appendAction_19 (fun H locs hP hD hS => ?_)
  have hP : va_P D vwCl (CW ad ca c_states c_transitions c_timerEvent c_from c_event c_next c_variable c_relation c_number c_actions (upd c_kind (((3 : Int32) * v1) + (c_actions v1.toNatClampNeg)).toNatClampNeg v2) c_a c_b c_present c_now c_emits c_kept c_ignores c_values c_due c_outputs c_fired c_made c_classes c_size c_taken c_stateClass c_finerClass c_usedBits c_offsets c_owners) H := hP
  have hD : va_D A (CW ad ca c_states c_transitions c_timerEvent c_from c_event c_next c_variable c_relation c_number c_actions (upd c_kind (((3 : Int32) * v1) + (c_actions v1.toNatClampNeg)).toNatClampNeg v2) c_a c_b c_present c_now c_emits c_kept c_ignores c_values c_due c_outputs c_fired c_made c_classes c_size c_taken c_stateClass c_finerClass c_usedBits c_offsets c_owners) := hD
  refine lv_aload_n hx hb dX1_appendAction_20 rfl (lv_at hl 1 rfl) ?_
  refine va_get (D := D) (ci := 1) (v := .ref (ad 13)) (C := RX1) (T := TX1) (N := 13) hx hb hts hiX1 hown hK hP 1 rfl rfl 11 (by decide) f46 (fun _ h9 => h9) rfl dX1_appendAction_21 ?_
  refine lv_iload hx hb dX1_appendAction_24 (lv_at hl 0 rfl) ?_
  refine lv_iload_n hx hb dX1_appendAction_26 rfl (lv_at hl 4 rfl) ?_
  refine va_iast hx hb hK hP hD hS 13 9 rfl rfl hi19 dX1_appendAction_27 (fun H locs hP hD hS => ?_)
  have hP : va_P D vwCl (CW ad ca c_states c_transitions c_timerEvent c_from c_event c_next c_variable c_relation c_number c_actions (upd c_kind (((3 : Int32) * v1) + (c_actions v1.toNatClampNeg)).toNatClampNeg v2) (upd c_a (((3 : Int32) * v1) + (c_actions v1.toNatClampNeg)).toNatClampNeg v3) c_b c_present c_now c_emits c_kept c_ignores c_values c_due c_outputs c_fired c_made c_classes c_size c_taken c_stateClass c_finerClass c_usedBits c_offsets c_owners) H := hP
  have hD : va_D A (CW ad ca c_states c_transitions c_timerEvent c_from c_event c_next c_variable c_relation c_number c_actions (upd c_kind (((3 : Int32) * v1) + (c_actions v1.toNatClampNeg)).toNatClampNeg v2) (upd c_a (((3 : Int32) * v1) + (c_actions v1.toNatClampNeg)).toNatClampNeg v3) c_b c_present c_now c_emits c_kept c_ignores c_values c_due c_outputs c_fired c_made c_classes c_size c_taken c_stateClass c_finerClass c_usedBits c_offsets c_owners) := hD
  refine lv_aload_n hx hb dX1_appendAction_28 rfl (lv_at hl 1 rfl) ?_
  refine va_get (D := D) (ci := 1) (v := .ref (ad 14)) (C := RX1) (T := TX1) (N := 13) hx hb hts hiX1 hown hK hP 1 rfl rfl 12 (by decide) f49 (fun _ h9 => h9) rfl dX1_appendAction_29 ?_
  refine lv_iload hx hb dX1_appendAction_32 (lv_at hl 0 rfl) ?_
  refine lv_iload_n hx hb dX1_appendAction_34 rfl (lv_at hl 3 rfl) ?_
  refine lv_iconst (v := (3 : Int32)) hx hb dX1_appendAction_35 (by decide) ?_
  refine lv_icmp_eq (tgt := 44) hx hb dX1_appendAction_36 (by decide) (fun hc => ?_) (fun hc => ?_)
  · have hf := pr_t hf hc
    refine lv_iconst (v := (0 : Int32)) hx hb dX1_appendAction_44 (by decide) ?_
    refine lv_goto (tgt := 50) hx hb dX1_appendAction_45 (by decide) ?_
    exact B50 (upd c_kind (((3 : Int32) * v1) + (c_actions v1.toNatClampNeg)).toNatClampNeg v2) (upd c_a (((3 : Int32) * v1) + (c_actions v1.toNatClampNeg)).toNatClampNeg v3) (((3 : Int32) * v1) + (c_actions v1.toNatClampNeg)) (0 : Int32) H locs ls hP hD hS (lv_sub hl [1, 2] rfl) hf
  · have hf := pr_f hf hc
    refine lv_iload_n hx hb dX1_appendAction_39 rfl (lv_at hl 3 rfl) ?_
    refine lv_iconst (v := (4 : Int32)) hx hb dX1_appendAction_40 (by decide) ?_
    refine lv_icmp_ne (tgt := 48) hx hb dX1_appendAction_41 (by decide) (fun hc => ?_) (fun hc => ?_)
    · have hf := pr_f hf hc
      refine lv_iload hx hb dX1_appendAction_48 (lv_at hl 5 rfl) ?_
      exact B50 (upd c_kind (((3 : Int32) * v1) + (c_actions v1.toNatClampNeg)).toNatClampNeg v2) (upd c_a (((3 : Int32) * v1) + (c_actions v1.toNatClampNeg)).toNatClampNeg v3) (((3 : Int32) * v1) + (c_actions v1.toNatClampNeg)) v4 H locs ls hP hD hS (lv_sub hl [1, 2] rfl) hf
    · have hf := pr_t hf hc
      refine lv_iconst (v := (0 : Int32)) hx hb dX1_appendAction_44 (by decide) ?_
      refine lv_goto (tgt := 50) hx hb dX1_appendAction_45 (by decide) ?_
      exact B50 (upd c_kind (((3 : Int32) * v1) + (c_actions v1.toNatClampNeg)).toNatClampNeg v2) (upd c_a (((3 : Int32) * v1) + (c_actions v1.toNatClampNeg)).toNatClampNeg v3) (((3 : Int32) * v1) + (c_actions v1.toNatClampNeg)) (0 : Int32) H locs ls hP hD hS (lv_sub hl [1, 2] rfl) hf
abbrev rmX1_covers : Room := { frames := 1, cells := 0, slots := 0, locals := 21 }
set_option maxHeartbeats 4000000 in
set_option maxRecDepth 100000 in
theorem c_X1_covers {l : Launch} {D : va_G} {ad : Nat → Nat} {ca : Nat → ClassId} (c_states c_transitions : Int32) (c_timerEvent c_from c_event c_next c_variable c_relation c_number c_actions c_kind c_a c_b : Nat → Int32) (c_present : Int32) (c_now : Int64) (c_emits c_kept c_ignores : Int32) (c_values : Nat → Int32) (c_due : Nat → Int64) (c_outputs c_fired : Nat → Int32) (c_made c_classes c_size c_taken : Int32) (c_stateClass c_finerClass c_usedBits c_offsets c_owners : Nat → Int32) (v1 v2 : Int32) {o : Int32} (hf : X1_covers c_variable c_relation c_number v1 v2 = some o) : Ci l yX1_covers wsX1_covers rmX1_covers D (CT ca) (CW ad ca c_states c_transitions c_timerEvent c_from c_event c_next c_variable c_relation c_number c_actions c_kind c_a c_b c_present c_now c_emits c_kept c_ignores c_values c_due c_outputs c_fired c_made c_classes c_size c_taken c_stateClass c_finerClass c_usedBits c_offsets c_owners) [.ref (ad 1), .int v1, .int v2] o (CW ad ca c_states c_transitions c_timerEvent c_from c_event c_next c_variable c_relation c_number c_actions c_kind c_a c_b c_present c_now c_emits c_kept c_ignores c_values c_due c_outputs c_fired c_made c_classes c_size c_taken c_stateClass c_finerClass c_usedBits c_offsets c_owners) := by
  intro sz
  refine pw_entry (Qc := fun A => pw_Qi D (CT ca) (CW ad ca c_states c_transitions c_timerEvent c_from c_event c_next c_variable c_relation c_number c_actions c_kind c_a c_b c_present c_now c_emits c_kept c_ignores c_values c_due c_outputs c_fired c_made c_classes c_size c_taken c_stateClass c_finerClass c_usedBits c_offsets c_owners) A o) (cc := cX1_covers) (maxL := 5) (ret := (some .boolean)) (by decide) rfl (Nat.le_of_ble_eq_true rfl) ?_ sz
  intro p e s m args below meth c A ls Z H locs hx hb hr hlocks hts hown hml hnm hK hP hD hS hA hl hZ
  have hown : s.vm.findClass RX1 = some m.cls := hown
  have hiX1 : ∀ w ∈ u_ws RX1 TX1 13, w ∈ wsX1_covers := by decide +kernel
  have f31 := hts (.fieldLink RX1 31 "ProtocolMachine$Protocol" "variable" "[I") (by decide +kernel)
  have hl : lv_has ls 5 [(0, .ref (ad 1)), (1, .int v1), (2, .int v2)] := hl
  unfold X1_covers at hf
  refine lv_aload_n hx hb dX1_covers_0 rfl (lv_at hl 0 rfl) ?_
  refine va_get (D := D) (ci := 1) (v := .ref (ad 8)) (C := RX1) (T := TX1) (N := 13) hx hb hts hiX1 hown hK hP 1 rfl rfl 6 (by decide) f31 (fun _ h9 => h9) rfl dX1_covers_1 ?_
  refine lv_iload_n hx hb dX1_covers_4 rfl (lv_at hl 1 rfl) ?_
  obtain ⟨hi5, hf⟩ := pr_in hf
  refine va_iald hx hb hK hP 8 4 rfl rfl hi5 dX1_covers_5 ?_
  refine lv_iconst (v := (-1 : Int32)) hx hb dX1_covers_6 (by decide) ?_
  refine lv_icmp_ne (tgt := 12) hx hb dX1_covers_7 (by decide) (fun hc => ?_) (fun hc => ?_)
  · have hf := pr_f hf hc
    refine lv_aload_n hx hb dX1_covers_12 rfl (lv_at hl 0 rfl) ?_
    refine va_get (D := D) (ci := 1) (v := .ref (ad 8)) (C := RX1) (T := TX1) (N := 13) hx hb hts hiX1 hown hK hP 1 rfl rfl 6 (by decide) f31 (fun _ h9 => h9) rfl dX1_covers_13 ?_
    refine lv_iload_n hx hb dX1_covers_16 rfl (lv_at hl 1 rfl) ?_
    refine va_iald hx hb hK hP 8 4 rfl rfl hi5 dX1_covers_17 ?_
    refine lv_aload_n hx hb dX1_covers_18 rfl (lv_at hl 0 rfl) ?_
    refine va_get (D := D) (ci := 1) (v := .ref (ad 8)) (C := RX1) (T := TX1) (N := 13) hx hb hts hiX1 hown hK hP 1 rfl rfl 6 (by decide) f31 (fun _ h9 => h9) rfl dX1_covers_19 ?_
    refine lv_iload_n hx hb dX1_covers_22 rfl (lv_at hl 2 rfl) ?_
    obtain ⟨hi23, hf⟩ := pr_in hf
    refine va_iald hx hb hK hP 8 4 rfl rfl hi23 dX1_covers_23 ?_
    refine lv_icmp_eq (tgt := 29) hx hb dX1_covers_24 (by decide) (fun hc => ?_) (fun hc => ?_)
    · have hf := pr_t hf hc
      refine lv_aload_n hx hb dX1_covers_29 rfl (lv_at hl 0 rfl) ?_
      refine lv_iload_n hx hb dX1_covers_30 rfl (lv_at hl 2 rfl) ?_
      obtain ⟨x31, hg31, hf⟩ := pr_b hf
      refine pw_cViW (b := ad 1) (As := [.int v2]) (rest := []) ⟨hx, hb, hml, hown, hts⟩ (c_X1_lowest (D := D) c_states c_transitions c_timerEvent c_from c_event c_next c_variable c_relation c_number c_actions c_kind c_a c_b c_present c_now c_emits c_kept c_ignores c_values c_due c_outputs c_fired c_made c_classes c_size c_taken c_stateClass c_finerClass c_usedBits c_offsets c_owners v2 hg31) (cwV 1 hts gX1_covers_X1_lowest rfl rfl rfl (by decide +kernel) ⟨Nat.le_of_ble_eq_true rfl, Nat.le_of_ble_eq_true rfl⟩) 1 1 rfl rfl hK hP hD hS hA rfl hl.1 rfl (Nat.le_of_ble_eq_true rfl) dX1_covers_31 ⟨Nat.le_of_ble_eq_true rfl, Nat.le_of_ble_eq_true rfl⟩ (fun H locs hP hD hS => ?_)
      refine lv_istore_n (lv' := [(3, .int x31), (0, .ref (ad 1)), (1, .int v1), (2, .int v2)]) hx hb dX1_covers_34 rfl hl (by decide) rfl (fun ls hl => ?_)
      refine lv_aload_n hx hb dX1_covers_35 rfl (lv_at hl 1 rfl) ?_
      refine lv_iload_n hx hb dX1_covers_36 rfl (lv_at hl 3 rfl) ?_
      obtain ⟨x37, hg37, hf⟩ := pr_b hf
      refine pw_cViW (b := ad 1) (As := [.int v2]) (rest := []) ⟨hx, hb, hml, hown, hts⟩ (c_X1_highest (D := D) c_states c_transitions c_timerEvent c_from c_event c_next c_variable c_relation c_number c_actions c_kind c_a c_b c_present c_now c_emits c_kept c_ignores c_values c_due c_outputs c_fired c_made c_classes c_size c_taken c_stateClass c_finerClass c_usedBits c_offsets c_owners v2 hg37) (cwV 1 hts gX1_covers_X1_highest rfl rfl rfl (by decide +kernel) ⟨Nat.le_of_ble_eq_true rfl, Nat.le_of_ble_eq_true rfl⟩) 1 1 rfl rfl hK hP hD hS hA rfl hl.1 rfl (Nat.le_of_ble_eq_true rfl) dX1_covers_37 ⟨Nat.le_of_ble_eq_true rfl, Nat.le_of_ble_eq_true rfl⟩ (fun H locs hP hD hS => ?_)
      refine lv_istore (lv' := [(4, .int x37), (3, .int x31), (0, .ref (ad 1)), (1, .int v1), (2, .int v2)]) hx hb dX1_covers_40 hl (by decide) rfl (fun ls hl => ?_)
      refine lv_iload_n hx hb dX1_covers_42 rfl (lv_at hl 1 rfl) ?_
      refine lv_iload hx hb dX1_covers_43 (lv_at hl 0 rfl) ?_
      refine lv_icmp_gt (tgt := 67) hx hb dX1_covers_45 (by decide) (fun hc => ?_) (fun hc => ?_)
      · have hf := pr_t hf hc
        refine lv_iconst (v := (1 : Int32)) hx hb dX1_covers_67 (by decide) ?_
        refine lv_goto (tgt := 72) hx hb dX1_covers_68 (by decide) ?_
        obtain rfl := Option.some.inj hf
        subst hZ
        exact pw_rz hx hb hr hlocks (Or.inr rfl) hK hP hD hS (Nat.le_of_ble_eq_true rfl) (Nat.le_of_ble_eq_true rfl) dX1_covers_72
      · have hf := pr_f hf hc
        refine lv_aload_n hx hb dX1_covers_48 rfl (lv_at hl 2 rfl) ?_
        refine lv_iload_n hx hb dX1_covers_49 rfl (lv_at hl 3 rfl) ?_
        obtain ⟨x50, hg50, hf⟩ := pr_b hf
        refine pw_cViW (b := ad 1) (As := [.int v1]) (rest := []) ⟨hx, hb, hml, hown, hts⟩ (c_X1_lowest (D := D) c_states c_transitions c_timerEvent c_from c_event c_next c_variable c_relation c_number c_actions c_kind c_a c_b c_present c_now c_emits c_kept c_ignores c_values c_due c_outputs c_fired c_made c_classes c_size c_taken c_stateClass c_finerClass c_usedBits c_offsets c_owners v1 hg50) (cwV 1 hts gX1_covers_X1_lowest rfl rfl rfl (by decide +kernel) ⟨Nat.le_of_ble_eq_true rfl, Nat.le_of_ble_eq_true rfl⟩) 1 1 rfl rfl hK hP hD hS hA rfl hl.1 rfl (Nat.le_of_ble_eq_true rfl) dX1_covers_50 ⟨Nat.le_of_ble_eq_true rfl, Nat.le_of_ble_eq_true rfl⟩ (fun H locs hP hD hS => ?_)
        refine lv_iload_n hx hb dX1_covers_53 rfl (lv_at hl 1 rfl) ?_
        refine lv_icmp_gt (tgt := 71) hx hb dX1_covers_54 (by decide) (fun hc => ?_) (fun hc => ?_)
        · have hf := pr_t hf hc
          refine lv_iconst (v := (0 : Int32)) hx hb dX1_covers_71 (by decide) ?_
          obtain rfl := Option.some.inj hf
          subst hZ
          exact pw_rz hx hb hr hlocks (Or.inl rfl) hK hP hD hS (Nat.le_of_ble_eq_true rfl) (Nat.le_of_ble_eq_true rfl) dX1_covers_72
        · have hf := pr_f hf hc
          refine lv_iload hx hb dX1_covers_57 (lv_at hl 0 rfl) ?_
          refine lv_aload_n hx hb dX1_covers_59 rfl (lv_at hl 2 rfl) ?_
          refine lv_iload_n hx hb dX1_covers_60 rfl (lv_at hl 3 rfl) ?_
          obtain ⟨x61, hg61, hf⟩ := pr_b hf
          refine pw_cViW (b := ad 1) (As := [.int v1]) (rest := [.int x37]) ⟨hx, hb, hml, hown, hts⟩ (c_X1_highest (D := D) c_states c_transitions c_timerEvent c_from c_event c_next c_variable c_relation c_number c_actions c_kind c_a c_b c_present c_now c_emits c_kept c_ignores c_values c_due c_outputs c_fired c_made c_classes c_size c_taken c_stateClass c_finerClass c_usedBits c_offsets c_owners v1 hg61) (cwV 1 hts gX1_covers_X1_highest rfl rfl rfl (by decide +kernel) ⟨Nat.le_of_ble_eq_true rfl, Nat.le_of_ble_eq_true rfl⟩) 1 1 rfl rfl hK hP hD hS hA rfl hl.1 rfl (Nat.le_of_ble_eq_true rfl) dX1_covers_61 ⟨Nat.le_of_ble_eq_true rfl, Nat.le_of_ble_eq_true rfl⟩ (fun H locs hP hD hS => ?_)
          refine lv_icmp_gt (tgt := 71) hx hb dX1_covers_64 (by decide) (fun hc => ?_) (fun hc => ?_)
          · have hf := pr_t hf hc
            refine lv_iconst (v := (0 : Int32)) hx hb dX1_covers_71 (by decide) ?_
            obtain rfl := Option.some.inj hf
            subst hZ
            exact pw_rz hx hb hr hlocks (Or.inl rfl) hK hP hD hS (Nat.le_of_ble_eq_true rfl) (Nat.le_of_ble_eq_true rfl) dX1_covers_72
          · have hf := pr_f hf hc
            refine lv_iconst (v := (1 : Int32)) hx hb dX1_covers_67 (by decide) ?_
            refine lv_goto (tgt := 72) hx hb dX1_covers_68 (by decide) ?_
            obtain rfl := Option.some.inj hf
            subst hZ
            exact pw_rz hx hb hr hlocks (Or.inr rfl) hK hP hD hS (Nat.le_of_ble_eq_true rfl) (Nat.le_of_ble_eq_true rfl) dX1_covers_72
    · have hf := pr_f hf hc
      refine lv_iconst (v := (0 : Int32)) hx hb dX1_covers_27 (by decide) ?_
      obtain rfl := Option.some.inj hf
      subst hZ
      exact pw_rz hx hb hr hlocks (Or.inl rfl) hK hP hD hS (Nat.le_of_ble_eq_true rfl) (Nat.le_of_ble_eq_true rfl) dX1_covers_28
  · have hf := pr_t hf hc
    refine lv_iconst (v := (1 : Int32)) hx hb dX1_covers_10 (by decide) ?_
    obtain rfl := Option.some.inj hf
    subst hZ
    exact pw_rz hx hb hr hlocks (Or.inr rfl) hK hP hD hS (Nat.le_of_ble_eq_true rfl) (Nat.le_of_ble_eq_true rfl) dX1_covers_11
abbrev rmX1_isBehindAnother : Room := { frames := 2, cells := 0, slots := 0, locals := 45 }
set_option maxHeartbeats 4000000 in
set_option maxRecDepth 100000 in
theorem c_X1_isBehindAnother {l : Launch} {D : va_G} {ad : Nat → Nat} {ca : Nat → ClassId} (fu : Nat) (c_states c_transitions : Int32) (c_timerEvent c_from c_event c_next c_variable c_relation c_number c_actions c_kind c_a c_b : Nat → Int32) (c_present : Int32) (c_now : Int64) (c_emits c_kept c_ignores : Int32) (c_values : Nat → Int32) (c_due : Nat → Int64) (c_outputs c_fired : Nat → Int32) (c_made c_classes c_size c_taken : Int32) (c_stateClass c_finerClass c_usedBits c_offsets c_owners : Nat → Int32) (v1 : Int32) {o : Int32} (hf : X1_isBehindAnother fu c_from c_event c_variable c_relation c_number v1 = some o) : Ci l yX1_isBehindAnother wsX1_isBehindAnother rmX1_isBehindAnother D (CT ca) (CW ad ca c_states c_transitions c_timerEvent c_from c_event c_next c_variable c_relation c_number c_actions c_kind c_a c_b c_present c_now c_emits c_kept c_ignores c_values c_due c_outputs c_fired c_made c_classes c_size c_taken c_stateClass c_finerClass c_usedBits c_offsets c_owners) [.ref (ad 1), .int v1] o (CW ad ca c_states c_transitions c_timerEvent c_from c_event c_next c_variable c_relation c_number c_actions c_kind c_a c_b c_present c_now c_emits c_kept c_ignores c_values c_due c_outputs c_fired c_made c_classes c_size c_taken c_stateClass c_finerClass c_usedBits c_offsets c_owners) := by
  intro sz
  refine pw_entry (Qc := fun A => pw_Qi D (CT ca) (CW ad ca c_states c_transitions c_timerEvent c_from c_event c_next c_variable c_relation c_number c_actions c_kind c_a c_b c_present c_now c_emits c_kept c_ignores c_values c_due c_outputs c_fired c_made c_classes c_size c_taken c_stateClass c_finerClass c_usedBits c_offsets c_owners) A o) (cc := cX1_isBehindAnother) (maxL := 3) (ret := (some .boolean)) (by decide) rfl (Nat.le_of_ble_eq_true rfl) ?_ sz
  intro p e s m args below meth c A ls Z H locs hx hb hr hlocks hts hown hml hnm hK hP hD hS hA hl hZ
  have hown : s.vm.findClass RX1 = some m.cls := hown
  have hiX1 : ∀ w ∈ u_ws RX1 TX1 13, w ∈ wsX1_isBehindAnother := by decide +kernel
  have f22 := hts (.fieldLink RX1 22 "ProtocolMachine$Protocol" "from" "[I") (by decide +kernel)
  have f25 := hts (.fieldLink RX1 25 "ProtocolMachine$Protocol" "event" "[I") (by decide +kernel)
  have hl : lv_has ls 3 [(0, .ref (ad 1)), (1, .int v1)] := hl
  have L2 : ∀ n2 : Nat, ∀ (v2 : Int32) (H : Heap) (locs : List Loc) (ls : Array Slot), va_P D vwCl (CW ad ca c_states c_transitions c_timerEvent c_from c_event c_next c_variable c_relation c_number c_actions c_kind c_a c_b c_present c_now c_emits c_kept c_ignores c_values c_due c_outputs c_fired c_made c_classes c_size c_taken c_stateClass c_finerClass c_usedBits c_offsets c_owners) H → va_D A (CW ad ca c_states c_transitions c_timerEvent c_from c_event c_next c_variable c_relation c_number c_actions c_kind c_a c_b c_present c_now c_emits c_kept c_ignores c_values c_due c_outputs c_fired c_made c_classes c_size c_taken c_stateClass c_finerClass c_usedBits c_offsets c_owners) → va_S A s.heap H locs → lv_has ls 3 [(0, .ref (ad 1)), (1, .int v1), (2, .int v2)] → X1_isBehindAnother_L2 c_from c_event c_variable c_relation c_number v1 n2 v2 = some o → W p l e rmX1_isBehindAnother s m args below meth c H locs 0 0 Z (F0 m 2 ls []) := by
    intro n2
    induction n2 with
    | zero =>
      intro v2 H locs ls hP hD hS hl hf
      exact pr_n hf
    | succ n2 ih2 =>
      intro v2 H locs ls hP hD hS hl hf
      replace hf : X1_isBehindAnother_B2 c_from c_event c_variable c_relation c_number v1 (X1_isBehindAnother_L2 c_from c_event c_variable c_relation c_number v1  n2) v2 = some o := hf
      unfold X1_isBehindAnother_B2 at hf
      refine lv_iload_n hx hb dX1_isBehindAnother_2 rfl (lv_at hl 2 rfl) ?_
      refine lv_iload_n hx hb dX1_isBehindAnother_3 rfl (lv_at hl 1 rfl) ?_
      refine lv_icmp_ge (tgt := 54) hx hb dX1_isBehindAnother_4 (by decide) (fun hc => ?_) (fun hc => ?_)
      · have hf := pr_t hf hc
        refine lv_iconst (v := (0 : Int32)) hx hb dX1_isBehindAnother_54 (by decide) ?_
        obtain rfl := Option.some.inj hf
        subst hZ
        exact pw_rz hx hb hr hlocks (Or.inl rfl) hK hP hD hS (Nat.le_of_ble_eq_true rfl) (Nat.le_of_ble_eq_true rfl) dX1_isBehindAnother_55
      · have hf := pr_f hf hc
        refine lv_aload_n hx hb dX1_isBehindAnother_7 rfl (lv_at hl 0 rfl) ?_
        refine va_get (D := D) (ci := 1) (v := .ref (ad 5)) (C := RX1) (T := TX1) (N := 13) hx hb hts hiX1 hown hK hP 1 rfl rfl 3 (by decide) f22 (fun _ h9 => h9) rfl dX1_isBehindAnother_8 ?_
        refine lv_iload_n hx hb dX1_isBehindAnother_11 rfl (lv_at hl 2 rfl) ?_
        obtain ⟨hi12, hf⟩ := pr_in hf
        refine va_iald hx hb hK hP 5 1 rfl rfl hi12 dX1_isBehindAnother_12 ?_
        refine lv_aload_n hx hb dX1_isBehindAnother_13 rfl (lv_at hl 0 rfl) ?_
        refine va_get (D := D) (ci := 1) (v := .ref (ad 5)) (C := RX1) (T := TX1) (N := 13) hx hb hts hiX1 hown hK hP 1 rfl rfl 3 (by decide) f22 (fun _ h9 => h9) rfl dX1_isBehindAnother_14 ?_
        refine lv_iload_n hx hb dX1_isBehindAnother_17 rfl (lv_at hl 1 rfl) ?_
        obtain ⟨hi18, hf⟩ := pr_in hf
        refine va_iald hx hb hK hP 5 1 rfl rfl hi18 dX1_isBehindAnother_18 ?_
        refine lv_icmp_ne (tgt := 48) hx hb dX1_isBehindAnother_19 (by decide) (fun hc => ?_) (fun hc => ?_)
        · have hf := pr_f hf hc
          refine lv_iinc (v := (v2 + (1 : Int32))) (lv' := [(2, .int (v2 + (1 : Int32))), (0, .ref (ad 1)), (1, .int v1)]) hx hb dX1_isBehindAnother_48 hl (k := 2) rfl rfl (by decide) rfl (fun ls hl => ?_)
          refine lv_goto (tgt := 2) hx hb dX1_isBehindAnother_51 (by decide) ?_
          exact ih2 (v2 + (1 : Int32)) H locs ls hP hD hS (lv_sub hl [1, 2, 0] rfl) hf
        · have hf := pr_t hf hc
          refine lv_aload_n hx hb dX1_isBehindAnother_22 rfl (lv_at hl 0 rfl) ?_
          refine va_get (D := D) (ci := 1) (v := .ref (ad 6)) (C := RX1) (T := TX1) (N := 13) hx hb hts hiX1 hown hK hP 1 rfl rfl 4 (by decide) f25 (fun _ h9 => h9) rfl dX1_isBehindAnother_23 ?_
          refine lv_iload_n hx hb dX1_isBehindAnother_26 rfl (lv_at hl 2 rfl) ?_
          refine va_iald hx hb hK hP 6 2 rfl rfl hi12 dX1_isBehindAnother_27 ?_
          refine lv_aload_n hx hb dX1_isBehindAnother_28 rfl (lv_at hl 0 rfl) ?_
          refine va_get (D := D) (ci := 1) (v := .ref (ad 6)) (C := RX1) (T := TX1) (N := 13) hx hb hts hiX1 hown hK hP 1 rfl rfl 4 (by decide) f25 (fun _ h9 => h9) rfl dX1_isBehindAnother_29 ?_
          refine lv_iload_n hx hb dX1_isBehindAnother_32 rfl (lv_at hl 1 rfl) ?_
          refine va_iald hx hb hK hP 6 2 rfl rfl hi18 dX1_isBehindAnother_33 ?_
          refine lv_icmp_ne (tgt := 48) hx hb dX1_isBehindAnother_34 (by decide) (fun hc => ?_) (fun hc => ?_)
          · have hf := pr_f hf hc
            refine lv_iinc (v := (v2 + (1 : Int32))) (lv' := [(2, .int (v2 + (1 : Int32))), (0, .ref (ad 1)), (1, .int v1)]) hx hb dX1_isBehindAnother_48 hl (k := 2) rfl rfl (by decide) rfl (fun ls hl => ?_)
            refine lv_goto (tgt := 2) hx hb dX1_isBehindAnother_51 (by decide) ?_
            exact ih2 (v2 + (1 : Int32)) H locs ls hP hD hS (lv_sub hl [1, 2, 0] rfl) hf
          · have hf := pr_t hf hc
            refine lv_aload_n hx hb dX1_isBehindAnother_37 rfl (lv_at hl 0 rfl) ?_
            refine lv_iload_n hx hb dX1_isBehindAnother_38 rfl (lv_at hl 2 rfl) ?_
            refine lv_iload_n hx hb dX1_isBehindAnother_39 rfl (lv_at hl 1 rfl) ?_
            obtain ⟨x40, hg40, hf⟩ := pr_b hf
            refine pw_cViW (b := ad 1) (As := [.int v2, .int v1]) (rest := []) ⟨hx, hb, hml, hown, hts⟩ (c_X1_covers (D := D) c_states c_transitions c_timerEvent c_from c_event c_next c_variable c_relation c_number c_actions c_kind c_a c_b c_present c_now c_emits c_kept c_ignores c_values c_due c_outputs c_fired c_made c_classes c_size c_taken c_stateClass c_finerClass c_usedBits c_offsets c_owners v2 v1 hg40) (cwV 2 hts gX1_isBehindAnother_X1_covers rfl rfl rfl (by decide +kernel) ⟨Nat.le_of_ble_eq_true rfl, Nat.le_of_ble_eq_true rfl⟩) 1 1 rfl rfl hK hP hD hS hA rfl hl.1 rfl (Nat.le_of_ble_eq_true rfl) dX1_isBehindAnother_40 ⟨Nat.le_of_ble_eq_true rfl, Nat.le_of_ble_eq_true rfl⟩ (fun H locs hP hD hS => ?_)
            refine lv_if_eq (tgt := 48) hx hb dX1_isBehindAnother_43 (by decide) (fun hc => ?_) (fun hc => ?_)
            · have hf := pr_t hf hc
              refine lv_iinc (v := (v2 + (1 : Int32))) (lv' := [(2, .int (v2 + (1 : Int32))), (0, .ref (ad 1)), (1, .int v1)]) hx hb dX1_isBehindAnother_48 hl (k := 2) rfl rfl (by decide) rfl (fun ls hl => ?_)
              refine lv_goto (tgt := 2) hx hb dX1_isBehindAnother_51 (by decide) ?_
              exact ih2 (v2 + (1 : Int32)) H locs ls hP hD hS (lv_sub hl [1, 2, 0] rfl) hf
            · have hf := pr_f hf hc
              refine lv_iconst (v := (1 : Int32)) hx hb dX1_isBehindAnother_46 (by decide) ?_
              obtain rfl := Option.some.inj hf
              subst hZ
              exact pw_rz hx hb hr hlocks (Or.inr rfl) hK hP hD hS (Nat.le_of_ble_eq_true rfl) (Nat.le_of_ble_eq_true rfl) dX1_isBehindAnother_47
  unfold X1_isBehindAnother at hf
  refine lv_iconst (v := (0 : Int32)) hx hb dX1_isBehindAnother_0 (by decide) ?_
  refine lv_istore_n (lv' := [(2, .int (0 : Int32)), (0, .ref (ad 1)), (1, .int v1)]) hx hb dX1_isBehindAnother_1 rfl hl (by decide) rfl (fun ls hl => ?_)
  exact L2 fu (0 : Int32) H locs ls hP hD hS (lv_sub hl [1, 2, 0] rfl) hf
abbrev rmX1_doTheSame : Room := { frames := 0, cells := 0, slots := 0, locals := 0 }
set_option maxHeartbeats 4000000 in
set_option maxRecDepth 100000 in
theorem c_X1_doTheSame {l : Launch} {D : va_G} {ad : Nat → Nat} {ca : Nat → ClassId} (fu : Nat) (c_states c_transitions : Int32) (c_timerEvent c_from c_event c_next c_variable c_relation c_number c_actions c_kind c_a c_b : Nat → Int32) (c_present : Int32) (c_now : Int64) (c_emits c_kept c_ignores : Int32) (c_values : Nat → Int32) (c_due : Nat → Int64) (c_outputs c_fired : Nat → Int32) (c_made c_classes c_size c_taken : Int32) (c_stateClass c_finerClass c_usedBits c_offsets c_owners : Nat → Int32) (v1 v2 : Int32) {o : Int32} (hf : X1_doTheSame fu c_variable c_relation c_number c_actions c_kind c_a c_b v1 v2 = some o) : Ci l yX1_doTheSame wsX1_doTheSame rmX1_doTheSame D (CT ca) (CW ad ca c_states c_transitions c_timerEvent c_from c_event c_next c_variable c_relation c_number c_actions c_kind c_a c_b c_present c_now c_emits c_kept c_ignores c_values c_due c_outputs c_fired c_made c_classes c_size c_taken c_stateClass c_finerClass c_usedBits c_offsets c_owners) [.ref (ad 1), .int v1, .int v2] o (CW ad ca c_states c_transitions c_timerEvent c_from c_event c_next c_variable c_relation c_number c_actions c_kind c_a c_b c_present c_now c_emits c_kept c_ignores c_values c_due c_outputs c_fired c_made c_classes c_size c_taken c_stateClass c_finerClass c_usedBits c_offsets c_owners) := by
  intro sz
  refine pw_entry (Qc := fun A => pw_Qi D (CT ca) (CW ad ca c_states c_transitions c_timerEvent c_from c_event c_next c_variable c_relation c_number c_actions c_kind c_a c_b c_present c_now c_emits c_kept c_ignores c_values c_due c_outputs c_fired c_made c_classes c_size c_taken c_stateClass c_finerClass c_usedBits c_offsets c_owners) A o) (cc := cX1_doTheSame) (maxL := 7) (ret := (some .boolean)) (by decide) rfl (Nat.le_of_ble_eq_true rfl) ?_ sz
  intro p e s m args below meth c A ls Z H locs hx hb hr hlocks hts hown hml hnm hK hP hD hS hA hl hZ
  have hown : s.vm.findClass RX1 = some m.cls := hown
  have hiX1 : ∀ w ∈ u_ws RX1 TX1 13, w ∈ wsX1_doTheSame := by decide +kernel
  have f31 := hts (.fieldLink RX1 31 "ProtocolMachine$Protocol" "variable" "[I") (by decide +kernel)
  have f34 := hts (.fieldLink RX1 34 "ProtocolMachine$Protocol" "relation" "[I") (by decide +kernel)
  have f37 := hts (.fieldLink RX1 37 "ProtocolMachine$Protocol" "number" "[I") (by decide +kernel)
  have f40 := hts (.fieldLink RX1 40 "ProtocolMachine$Protocol" "actions" "[I") (by decide +kernel)
  have f43 := hts (.fieldLink RX1 43 "ProtocolMachine$Protocol" "kind" "[I") (by decide +kernel)
  have f46 := hts (.fieldLink RX1 46 "ProtocolMachine$Protocol" "a" "[I") (by decide +kernel)
  have f49 := hts (.fieldLink RX1 49 "ProtocolMachine$Protocol" "b" "[I") (by decide +kernel)
  have hl : lv_has ls 7 [(0, .ref (ad 1)), (1, .int v1), (2, .int v2)] := hl
  have L75 : ∀ n75 : Nat, ∀ (v4 : Int32) (H : Heap) (locs : List Loc) (ls : Array Slot), va_P D vwCl (CW ad ca c_states c_transitions c_timerEvent c_from c_event c_next c_variable c_relation c_number c_actions c_kind c_a c_b c_present c_now c_emits c_kept c_ignores c_values c_due c_outputs c_fired c_made c_classes c_size c_taken c_stateClass c_finerClass c_usedBits c_offsets c_owners) H → va_D A (CW ad ca c_states c_transitions c_timerEvent c_from c_event c_next c_variable c_relation c_number c_actions c_kind c_a c_b c_present c_now c_emits c_kept c_ignores c_values c_due c_outputs c_fired c_made c_classes c_size c_taken c_stateClass c_finerClass c_usedBits c_offsets c_owners) → va_S A s.heap H locs → lv_has ls 7 [(0, .ref (ad 1)), (1, .int v1), (2, .int v2), (4, .int v4)] → X1_doTheSame_L75 c_actions c_kind c_a c_b v1 v2 n75 v4 = some o → W p l e rmX1_doTheSame s m args below meth c H locs 0 0 Z (F0 m 75 ls []) := by
    intro n75
    induction n75 with
    | zero =>
      intro v4 H locs ls hP hD hS hl hf
      exact pr_n hf
    | succ n75 ih75 =>
      intro v4 H locs ls hP hD hS hl hf
      replace hf : X1_doTheSame_B75 c_actions c_kind c_a c_b v1 v2 (X1_doTheSame_L75 c_actions c_kind c_a c_b v1 v2  n75) v4 = some o := hf
      unfold X1_doTheSame_B75 at hf
      refine lv_iload hx hb dX1_doTheSame_75 (lv_at hl 3 rfl) ?_
      refine lv_aload_n hx hb dX1_doTheSame_77 rfl (lv_at hl 0 rfl) ?_
      refine va_get (D := D) (ci := 1) (v := .ref (ad 11)) (C := RX1) (T := TX1) (N := 13) hx hb hts hiX1 hown hK hP 1 rfl rfl 9 (by decide) f40 (fun _ h9 => h9) rfl dX1_doTheSame_78 ?_
      refine lv_iload_n hx hb dX1_doTheSame_81 rfl (lv_at hl 1 rfl) ?_
      obtain ⟨hi82, hf⟩ := pr_in hf
      refine va_iald hx hb hK hP 11 7 rfl rfl hi82 dX1_doTheSame_82 ?_
      refine lv_icmp_ge (tgt := 161) hx hb dX1_doTheSame_83 (by decide) (fun hc => ?_) (fun hc => ?_)
      · have hf := pr_t hf hc
        refine lv_iconst (v := (1 : Int32)) hx hb dX1_doTheSame_161 (by decide) ?_
        obtain rfl := Option.some.inj hf
        subst hZ
        exact pw_rz hx hb hr hlocks (Or.inr rfl) hK hP hD hS (Nat.le_of_ble_eq_true rfl) (Nat.le_of_ble_eq_true rfl) dX1_doTheSame_162
      · have hf := pr_f hf hc
        refine lv_iconst (v := (3 : Int32)) hx hb dX1_doTheSame_86 (by decide) ?_
        refine lv_iload_n hx hb dX1_doTheSame_87 rfl (lv_at hl 1 rfl) ?_
        refine lv_imul hx hb dX1_doTheSame_88 ?_
        refine lv_iload hx hb dX1_doTheSame_89 (lv_at hl 3 rfl) ?_
        refine lv_iadd hx hb dX1_doTheSame_91 ?_
        refine lv_istore (lv' := [(5, .int (((3 : Int32) * v1) + v4)), (0, .ref (ad 1)), (1, .int v1), (2, .int v2), (4, .int v4)]) hx hb dX1_doTheSame_92 hl (by decide) rfl (fun ls hl => ?_)
        refine lv_iconst (v := (3 : Int32)) hx hb dX1_doTheSame_94 (by decide) ?_
        refine lv_iload_n hx hb dX1_doTheSame_95 rfl (lv_at hl 3 rfl) ?_
        refine lv_imul hx hb dX1_doTheSame_96 ?_
        refine lv_iload hx hb dX1_doTheSame_97 (lv_at hl 4 rfl) ?_
        refine lv_iadd hx hb dX1_doTheSame_99 ?_
        refine lv_istore (lv' := [(6, .int (((3 : Int32) * v2) + v4)), (5, .int (((3 : Int32) * v1) + v4)), (0, .ref (ad 1)), (1, .int v1), (2, .int v2), (4, .int v4)]) hx hb dX1_doTheSame_100 hl (by decide) rfl (fun ls hl => ?_)
        refine lv_aload_n hx hb dX1_doTheSame_102 rfl (lv_at hl 2 rfl) ?_
        refine va_get (D := D) (ci := 1) (v := .ref (ad 12)) (C := RX1) (T := TX1) (N := 13) hx hb hts hiX1 hown hK hP 1 rfl rfl 10 (by decide) f43 (fun _ h9 => h9) rfl dX1_doTheSame_103 ?_
        refine lv_iload hx hb dX1_doTheSame_106 (lv_at hl 1 rfl) ?_
        obtain ⟨hi108, hf⟩ := pr_in hf
        refine va_iald hx hb hK hP 12 8 rfl rfl hi108 dX1_doTheSame_108 ?_
        refine lv_aload_n hx hb dX1_doTheSame_109 rfl (lv_at hl 2 rfl) ?_
        refine va_get (D := D) (ci := 1) (v := .ref (ad 12)) (C := RX1) (T := TX1) (N := 13) hx hb hts hiX1 hown hK hP 1 rfl rfl 10 (by decide) f43 (fun _ h9 => h9) rfl dX1_doTheSame_110 ?_
        refine lv_iload hx hb dX1_doTheSame_113 (lv_at hl 0 rfl) ?_
        obtain ⟨hi115, hf⟩ := pr_in hf
        refine va_iald hx hb hK hP 12 8 rfl rfl hi115 dX1_doTheSame_115 ?_
        refine lv_icmp_ne (tgt := 153) hx hb dX1_doTheSame_116 (by decide) (fun hc => ?_) (fun hc => ?_)
        · have hf := pr_f hf hc
          refine lv_iconst (v := (0 : Int32)) hx hb dX1_doTheSame_153 (by decide) ?_
          obtain rfl := Option.some.inj hf
          subst hZ
          exact pw_rz hx hb hr hlocks (Or.inl rfl) hK hP hD hS (Nat.le_of_ble_eq_true rfl) (Nat.le_of_ble_eq_true rfl) dX1_doTheSame_154
        · have hf := pr_t hf hc
          refine lv_aload_n hx hb dX1_doTheSame_119 rfl (lv_at hl 2 rfl) ?_
          refine va_get (D := D) (ci := 1) (v := .ref (ad 13)) (C := RX1) (T := TX1) (N := 13) hx hb hts hiX1 hown hK hP 1 rfl rfl 11 (by decide) f46 (fun _ h9 => h9) rfl dX1_doTheSame_120 ?_
          refine lv_iload hx hb dX1_doTheSame_123 (lv_at hl 1 rfl) ?_
          refine va_iald hx hb hK hP 13 9 rfl rfl hi108 dX1_doTheSame_125 ?_
          refine lv_aload_n hx hb dX1_doTheSame_126 rfl (lv_at hl 2 rfl) ?_
          refine va_get (D := D) (ci := 1) (v := .ref (ad 13)) (C := RX1) (T := TX1) (N := 13) hx hb hts hiX1 hown hK hP 1 rfl rfl 11 (by decide) f46 (fun _ h9 => h9) rfl dX1_doTheSame_127 ?_
          refine lv_iload hx hb dX1_doTheSame_130 (lv_at hl 0 rfl) ?_
          refine va_iald hx hb hK hP 13 9 rfl rfl hi115 dX1_doTheSame_132 ?_
          refine lv_icmp_ne (tgt := 153) hx hb dX1_doTheSame_133 (by decide) (fun hc => ?_) (fun hc => ?_)
          · have hf := pr_f hf hc
            refine lv_iconst (v := (0 : Int32)) hx hb dX1_doTheSame_153 (by decide) ?_
            obtain rfl := Option.some.inj hf
            subst hZ
            exact pw_rz hx hb hr hlocks (Or.inl rfl) hK hP hD hS (Nat.le_of_ble_eq_true rfl) (Nat.le_of_ble_eq_true rfl) dX1_doTheSame_154
          · have hf := pr_t hf hc
            refine lv_aload_n hx hb dX1_doTheSame_136 rfl (lv_at hl 2 rfl) ?_
            refine va_get (D := D) (ci := 1) (v := .ref (ad 14)) (C := RX1) (T := TX1) (N := 13) hx hb hts hiX1 hown hK hP 1 rfl rfl 12 (by decide) f49 (fun _ h9 => h9) rfl dX1_doTheSame_137 ?_
            refine lv_iload hx hb dX1_doTheSame_140 (lv_at hl 1 rfl) ?_
            refine va_iald hx hb hK hP 14 10 rfl rfl hi108 dX1_doTheSame_142 ?_
            refine lv_aload_n hx hb dX1_doTheSame_143 rfl (lv_at hl 2 rfl) ?_
            refine va_get (D := D) (ci := 1) (v := .ref (ad 14)) (C := RX1) (T := TX1) (N := 13) hx hb hts hiX1 hown hK hP 1 rfl rfl 12 (by decide) f49 (fun _ h9 => h9) rfl dX1_doTheSame_144 ?_
            refine lv_iload hx hb dX1_doTheSame_147 (lv_at hl 0 rfl) ?_
            refine va_iald hx hb hK hP 14 10 rfl rfl hi115 dX1_doTheSame_149 ?_
            refine lv_icmp_eq (tgt := 155) hx hb dX1_doTheSame_150 (by decide) (fun hc => ?_) (fun hc => ?_)
            · have hf := pr_t hf hc
              refine lv_iinc (v := (v4 + (1 : Int32))) (lv' := [(4, .int (v4 + (1 : Int32))), (6, .int (((3 : Int32) * v2) + v4)), (5, .int (((3 : Int32) * v1) + v4)), (0, .ref (ad 1)), (1, .int v1), (2, .int v2)]) hx hb dX1_doTheSame_155 hl (k := 5) rfl rfl (by decide) rfl (fun ls hl => ?_)
              refine lv_goto (tgt := 75) hx hb dX1_doTheSame_158 (by decide) ?_
              exact ih75 (v4 + (1 : Int32)) H locs ls hP hD hS (lv_sub hl [3, 4, 5, 0] rfl) hf
            · have hf := pr_f hf hc
              refine lv_iconst (v := (0 : Int32)) hx hb dX1_doTheSame_153 (by decide) ?_
              obtain rfl := Option.some.inj hf
              subst hZ
              exact pw_rz hx hb hr hlocks (Or.inl rfl) hK hP hD hS (Nat.le_of_ble_eq_true rfl) (Nat.le_of_ble_eq_true rfl) dX1_doTheSame_154
  have B50 : ∀ (s0 : Int32) (H : Heap) (locs : List Loc) (ls : Array Slot), va_P D vwCl (CW ad ca c_states c_transitions c_timerEvent c_from c_event c_next c_variable c_relation c_number c_actions c_kind c_a c_b c_present c_now c_emits c_kept c_ignores c_values c_due c_outputs c_fired c_made c_classes c_size c_taken c_stateClass c_finerClass c_usedBits c_offsets c_owners) H → va_D A (CW ad ca c_states c_transitions c_timerEvent c_from c_event c_next c_variable c_relation c_number c_actions c_kind c_a c_b c_present c_now c_emits c_kept c_ignores c_values c_due c_outputs c_fired c_made c_classes c_size c_taken c_stateClass c_finerClass c_usedBits c_offsets c_owners) → va_S A s.heap H locs → lv_has ls 7 [(0, .ref (ad 1)), (1, .int v1), (2, .int v2)] → X1_doTheSame_B50 fu c_actions c_kind c_a c_b v1 v2 s0 = some o → W p l e rmX1_doTheSame s m args below meth c H locs 0 0 Z (F0 m 50 ls [.int s0]) := by
    intro s0 H locs ls hP hD hS hl hf
    unfold X1_doTheSame_B50 at hf
    refine lv_istore_n (lv' := [(3, .int s0), (0, .ref (ad 1)), (1, .int v1), (2, .int v2)]) hx hb dX1_doTheSame_50 rfl hl (by decide) rfl (fun ls hl => ?_)
    refine lv_iload_n hx hb dX1_doTheSame_51 rfl (lv_at hl 0 rfl) ?_
    refine lv_if_eq (tgt := 70) hx hb dX1_doTheSame_52 (by decide) (fun hc => ?_) (fun hc => ?_)
    · have hf := pr_t hf hc
      refine lv_iconst (v := (0 : Int32)) hx hb dX1_doTheSame_70 (by decide) ?_
      obtain rfl := Option.some.inj hf
      subst hZ
      exact pw_rz hx hb hr hlocks (Or.inl rfl) hK hP hD hS (Nat.le_of_ble_eq_true rfl) (Nat.le_of_ble_eq_true rfl) dX1_doTheSame_71
    · have hf := pr_f hf hc
      refine lv_aload_n hx hb dX1_doTheSame_55 rfl (lv_at hl 1 rfl) ?_
      refine va_get (D := D) (ci := 1) (v := .ref (ad 11)) (C := RX1) (T := TX1) (N := 13) hx hb hts hiX1 hown hK hP 1 rfl rfl 9 (by decide) f40 (fun _ h9 => h9) rfl dX1_doTheSame_56 ?_
      refine lv_iload_n hx hb dX1_doTheSame_59 rfl (lv_at hl 2 rfl) ?_
      obtain ⟨hi60, hf⟩ := pr_in hf
      refine va_iald hx hb hK hP 11 7 rfl rfl hi60 dX1_doTheSame_60 ?_
      refine lv_aload_n hx hb dX1_doTheSame_61 rfl (lv_at hl 1 rfl) ?_
      refine va_get (D := D) (ci := 1) (v := .ref (ad 11)) (C := RX1) (T := TX1) (N := 13) hx hb hts hiX1 hown hK hP 1 rfl rfl 9 (by decide) f40 (fun _ h9 => h9) rfl dX1_doTheSame_62 ?_
      refine lv_iload_n hx hb dX1_doTheSame_65 rfl (lv_at hl 3 rfl) ?_
      obtain ⟨hi66, hf⟩ := pr_in hf
      refine va_iald hx hb hK hP 11 7 rfl rfl hi66 dX1_doTheSame_66 ?_
      refine lv_icmp_eq (tgt := 72) hx hb dX1_doTheSame_67 (by decide) (fun hc => ?_) (fun hc => ?_)
      · have hf := pr_t hf hc
        refine lv_iconst (v := (0 : Int32)) hx hb dX1_doTheSame_72 (by decide) ?_
        refine lv_istore (lv' := [(4, .int (0 : Int32)), (3, .int s0), (0, .ref (ad 1)), (1, .int v1), (2, .int v2)]) hx hb dX1_doTheSame_73 hl (by decide) rfl (fun ls hl => ?_)
        exact L75 fu (0 : Int32) H locs ls hP hD hS (lv_sub hl [2, 3, 4, 0] rfl) hf
      · have hf := pr_f hf hc
        refine lv_iconst (v := (0 : Int32)) hx hb dX1_doTheSame_70 (by decide) ?_
        obtain rfl := Option.some.inj hf
        subst hZ
        exact pw_rz hx hb hr hlocks (Or.inl rfl) hK hP hD hS (Nat.le_of_ble_eq_true rfl) (Nat.le_of_ble_eq_true rfl) dX1_doTheSame_71
  have B49 : ∀  (H : Heap) (locs : List Loc) (ls : Array Slot), va_P D vwCl (CW ad ca c_states c_transitions c_timerEvent c_from c_event c_next c_variable c_relation c_number c_actions c_kind c_a c_b c_present c_now c_emits c_kept c_ignores c_values c_due c_outputs c_fired c_made c_classes c_size c_taken c_stateClass c_finerClass c_usedBits c_offsets c_owners) H → va_D A (CW ad ca c_states c_transitions c_timerEvent c_from c_event c_next c_variable c_relation c_number c_actions c_kind c_a c_b c_present c_now c_emits c_kept c_ignores c_values c_due c_outputs c_fired c_made c_classes c_size c_taken c_stateClass c_finerClass c_usedBits c_offsets c_owners) → va_S A s.heap H locs → lv_has ls 7 [(0, .ref (ad 1)), (1, .int v1), (2, .int v2)] → X1_doTheSame_B49 fu c_actions c_kind c_a c_b v1 v2  = some o → W p l e rmX1_doTheSame s m args below meth c H locs 0 0 Z (F0 m 49 ls []) := by
    intro  H locs ls hP hD hS hl hf
    unfold X1_doTheSame_B49 at hf
    refine lv_iconst (v := (0 : Int32)) hx hb dX1_doTheSame_49 (by decide) ?_
    exact B50 (0 : Int32) H locs ls hP hD hS (lv_sub hl [0, 1, 2] rfl) hf
  unfold X1_doTheSame at hf
  refine lv_aload_n hx hb dX1_doTheSame_0 rfl (lv_at hl 0 rfl) ?_
  refine va_get (D := D) (ci := 1) (v := .ref (ad 8)) (C := RX1) (T := TX1) (N := 13) hx hb hts hiX1 hown hK hP 1 rfl rfl 6 (by decide) f31 (fun _ h9 => h9) rfl dX1_doTheSame_1 ?_
  refine lv_iload_n hx hb dX1_doTheSame_4 rfl (lv_at hl 1 rfl) ?_
  obtain ⟨hi5, hf⟩ := pr_in hf
  refine va_iald hx hb hK hP 8 4 rfl rfl hi5 dX1_doTheSame_5 ?_
  refine lv_aload_n hx hb dX1_doTheSame_6 rfl (lv_at hl 0 rfl) ?_
  refine va_get (D := D) (ci := 1) (v := .ref (ad 8)) (C := RX1) (T := TX1) (N := 13) hx hb hts hiX1 hown hK hP 1 rfl rfl 6 (by decide) f31 (fun _ h9 => h9) rfl dX1_doTheSame_7 ?_
  refine lv_iload_n hx hb dX1_doTheSame_10 rfl (lv_at hl 2 rfl) ?_
  obtain ⟨hi11, hf⟩ := pr_in hf
  refine va_iald hx hb hK hP 8 4 rfl rfl hi11 dX1_doTheSame_11 ?_
  refine lv_icmp_ne (tgt := 49) hx hb dX1_doTheSame_12 (by decide) (fun hc => ?_) (fun hc => ?_)
  · have hf := pr_f hf hc
    exact B49 H locs ls hP hD hS (lv_sub hl [0, 1, 2] rfl) hf
  · have hf := pr_t hf hc
    refine lv_aload_n hx hb dX1_doTheSame_15 rfl (lv_at hl 0 rfl) ?_
    refine va_get (D := D) (ci := 1) (v := .ref (ad 9)) (C := RX1) (T := TX1) (N := 13) hx hb hts hiX1 hown hK hP 1 rfl rfl 7 (by decide) f34 (fun _ h9 => h9) rfl dX1_doTheSame_16 ?_
    refine lv_iload_n hx hb dX1_doTheSame_19 rfl (lv_at hl 1 rfl) ?_
    refine va_iald hx hb hK hP 9 5 rfl rfl hi5 dX1_doTheSame_20 ?_
    refine lv_aload_n hx hb dX1_doTheSame_21 rfl (lv_at hl 0 rfl) ?_
    refine va_get (D := D) (ci := 1) (v := .ref (ad 9)) (C := RX1) (T := TX1) (N := 13) hx hb hts hiX1 hown hK hP 1 rfl rfl 7 (by decide) f34 (fun _ h9 => h9) rfl dX1_doTheSame_22 ?_
    refine lv_iload_n hx hb dX1_doTheSame_25 rfl (lv_at hl 2 rfl) ?_
    refine va_iald hx hb hK hP 9 5 rfl rfl hi11 dX1_doTheSame_26 ?_
    refine lv_icmp_ne (tgt := 49) hx hb dX1_doTheSame_27 (by decide) (fun hc => ?_) (fun hc => ?_)
    · have hf := pr_f hf hc
      exact B49 H locs ls hP hD hS (lv_sub hl [0, 1, 2] rfl) hf
    · have hf := pr_t hf hc
      refine lv_aload_n hx hb dX1_doTheSame_30 rfl (lv_at hl 0 rfl) ?_
      refine va_get (D := D) (ci := 1) (v := .ref (ad 10)) (C := RX1) (T := TX1) (N := 13) hx hb hts hiX1 hown hK hP 1 rfl rfl 8 (by decide) f37 (fun _ h9 => h9) rfl dX1_doTheSame_31 ?_
      refine lv_iload_n hx hb dX1_doTheSame_34 rfl (lv_at hl 1 rfl) ?_
      refine va_iald hx hb hK hP 10 6 rfl rfl hi5 dX1_doTheSame_35 ?_
      refine lv_aload_n hx hb dX1_doTheSame_36 rfl (lv_at hl 0 rfl) ?_
      refine va_get (D := D) (ci := 1) (v := .ref (ad 10)) (C := RX1) (T := TX1) (N := 13) hx hb hts hiX1 hown hK hP 1 rfl rfl 8 (by decide) f37 (fun _ h9 => h9) rfl dX1_doTheSame_37 ?_
      refine lv_iload_n hx hb dX1_doTheSame_40 rfl (lv_at hl 2 rfl) ?_
      refine va_iald hx hb hK hP 10 6 rfl rfl hi11 dX1_doTheSame_41 ?_
      refine lv_icmp_ne (tgt := 49) hx hb dX1_doTheSame_42 (by decide) (fun hc => ?_) (fun hc => ?_)
      · have hf := pr_f hf hc
        exact B49 H locs ls hP hD hS (lv_sub hl [0, 1, 2] rfl) hf
      · have hf := pr_t hf hc
        refine lv_iconst (v := (1 : Int32)) hx hb dX1_doTheSame_45 (by decide) ?_
        refine lv_goto (tgt := 50) hx hb dX1_doTheSame_46 (by decide) ?_
        exact B50 (1 : Int32) H locs ls hP hD hS (lv_sub hl [0, 1, 2] rfl) hf
