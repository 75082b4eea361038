abbrev rmX2_putReachedIntoOneClass : Room := { frames := 1, cells := 0, slots := 0, locals := 23 }
set_option maxHeartbeats 4000000 in
set_option maxRecDepth 100000 in
theorem c_X2_putReachedIntoOneClass {l : Launch} {D : va_G} {ad : Nat → Nat} {ca : Nat → ClassId} (fu : Nat) (c_states c_transitions : Int32) (c_timerEvent c_from c_event c_next c_variable c_relation c_number c_actions c_kind c_a c_b : Nat → Int32) (c_present : Int32) (c_now : Int64) (c_emits c_kept c_ignores : Int32) (c_values : Nat → Int32) (c_due : Nat → Int64) (c_outputs c_fired : Nat → Int32) (c_made c_classes c_size c_taken : Int32) (c_stateClass c_finerClass c_usedBits c_offsets c_owners : Nat → Int32) {o : Nat → Int32} (hf : X2_putReachedIntoOneClass fu c_states c_transitions c_from c_next c_stateClass = some o) : Cv l yX2_putReachedIntoOneClass wsX2_putReachedIntoOneClass rmX2_putReachedIntoOneClass D (CT ca) (CW ad ca c_states c_transitions c_timerEvent c_from c_event c_next c_variable c_relation c_number c_actions c_kind c_a c_b c_present c_now c_emits c_kept c_ignores c_values c_due c_outputs c_fired c_made c_classes c_size c_taken c_stateClass c_finerClass c_usedBits c_offsets c_owners) [.ref (ad 3)] (CW ad ca c_states c_transitions c_timerEvent c_from c_event c_next c_variable c_relation c_number c_actions c_kind c_a c_b c_present c_now c_emits c_kept c_ignores c_values c_due c_outputs c_fired c_made c_classes c_size c_taken o c_finerClass c_usedBits c_offsets c_owners) := by
  intro sz
  refine pw_entry (Qc := fun A => pw_Qv D (CT ca) (CW ad ca c_states c_transitions c_timerEvent c_from c_event c_next c_variable c_relation c_number c_actions c_kind c_a c_b c_present c_now c_emits c_kept c_ignores c_values c_due c_outputs c_fired c_made c_classes c_size c_taken o c_finerClass c_usedBits c_offsets c_owners) A) (cc := cX2_putReachedIntoOneClass) (maxL := 3) (ret := none) (by decide) rfl (Nat.le_of_ble_eq_true rfl) ?_ sz
  intro p e s m args below meth c A ls Z H locs hx hb hr hlocks hts hown hml hnm hK hP hD hS hA hl hZ
  have hown : s.vm.findClass RX2 = some m.cls := hown
  have hiX1 : ∀ w ∈ u_ws RX1 TX1 13, w ∈ wsX2_putReachedIntoOneClass := by decide +kernel
  have hiX2 : ∀ w ∈ u_ws RX2 TX2 10, w ∈ wsX2_putReachedIntoOneClass := by decide +kernel
  have f25 := hts (.fieldLink RX2 25 "ProtocolMachine$Table" "stateClass" "[I") (by decide +kernel)
  have f41 := hts (.fieldLink RX2 41 "ProtocolMachine$Table" "protocol" "LProtocolMachine$Protocol;") (by decide +kernel)
  have f64 := hts (.fieldLink RX2 64 "ProtocolMachine$Protocol" "states" "I") (by decide +kernel)
  have f69 := hts (.fieldLink RX2 69 "ProtocolMachine$Protocol" "transitions" "I") (by decide +kernel)
  have f72 := hts (.fieldLink RX2 72 "ProtocolMachine$Protocol" "from" "[I") (by decide +kernel)
  have f75 := hts (.fieldLink RX2 75 "ProtocolMachine$Protocol" "next" "[I") (by decide +kernel)
  have hl : lv_has ls 3 [(0, .ref (ad 3))] := hl
  have L17 : ∀ n17 : Nat, ∀ (c_stateClass : Nat → Int32) (v1 : Int32) (H : Heap) (locs : List Loc) (ls : Array Slot), va_P D vwCl (CW ad ca c_states c_transitions c_timerEvent c_from c_event c_next c_variable c_relation c_number c_actions c_kind c_a c_b c_present c_now c_emits c_kept c_ignores c_values c_due c_outputs c_fired c_made c_classes c_size c_taken c_stateClass c_finerClass c_usedBits c_offsets c_owners) H → va_D A (CW ad ca c_states c_transitions c_timerEvent c_from c_event c_next c_variable c_relation c_number c_actions c_kind c_a c_b c_present c_now c_emits c_kept c_ignores c_values c_due c_outputs c_fired c_made c_classes c_size c_taken c_stateClass c_finerClass c_usedBits c_offsets c_owners) → va_S A s.heap H locs → lv_has ls 3 [(0, .ref (ad 3)), (1, .int v1)] → X2_putReachedIntoOneClass_L17 fu c_states c_transitions c_from c_next n17 c_stateClass v1 = some o → W p l e rmX2_putReachedIntoOneClass s m args below meth c H locs 0 0 Z (F0 m 17 ls []) := by
    intro n17
    induction n17 with
    | zero =>
      intro c_stateClass v1 H locs ls hP hD hS hl hf
      exact pr_n hf
    | succ n17 ih17 =>
      have L30 : ∀ n30 : Nat, ∀ (c_stateClass : Nat → Int32) (v1 v2 : Int32) (H : Heap) (locs : List Loc) (ls : Array Slot), va_P D vwCl (CW ad ca c_states c_transitions c_timerEvent c_from c_event c_next c_variable c_relation c_number c_actions c_kind c_a c_b c_present c_now c_emits c_kept c_ignores c_values c_due c_outputs c_fired c_made c_classes c_size c_taken c_stateClass c_finerClass c_usedBits c_offsets c_owners) H → va_D A (CW ad ca c_states c_transitions c_timerEvent c_from c_event c_next c_variable c_relation c_number c_actions c_kind c_a c_b c_present c_now c_emits c_kept c_ignores c_values c_due c_outputs c_fired c_made c_classes c_size c_taken c_stateClass c_finerClass c_usedBits c_offsets c_owners) → va_S A s.heap H locs → lv_has ls 3 [(0, .ref (ad 3)), (1, .int v1), (2, .int v2)] → X2_putReachedIntoOneClass_L30 c_transitions c_from c_next (X2_putReachedIntoOneClass_L17 fu c_states c_transitions c_from c_next n17) n30 c_stateClass v1 v2 = some o → W p l e rmX2_putReachedIntoOneClass s m args below meth c H locs 0 0 Z (F0 m 30 ls []) := by
        intro n30
        induction n30 with
        | zero =>
          intro c_stateClass v1 v2 H locs ls hP hD hS hl hf
          exact pr_n hf
        | succ n30 ih30 =>
          intro c_stateClass v1 v2 H locs ls hP hD hS hl hf
          replace hf : X2_putReachedIntoOneClass_B30 c_transitions c_from c_next (X2_putReachedIntoOneClass_L17 fu c_states c_transitions c_from c_next  n17) (X2_putReachedIntoOneClass_L30 c_transitions c_from c_next (X2_putReachedIntoOneClass_L17 fu c_states c_transitions c_from c_next  n17) n30) c_stateClass v1 v2 = some o := hf
          unfold X2_putReachedIntoOneClass_B30 at hf
          refine lv_iload_n hx hb dX2_putReachedIntoOneClass_30 rfl (lv_at hl 2 rfl) ?_
          refine lv_aload_n hx hb dX2_putReachedIntoOneClass_31 rfl (lv_at hl 0 rfl) ?_
          refine va_get (D := D) (ci := 2) (v := .ref (ad 1)) (C := RX2) (T := TX2) (N := 10) hx hb hts hiX2 hown hK hP 3 rfl rfl 0 (by decide) f41 (fun _ h9 => h9) rfl dX2_putReachedIntoOneClass_32 ?_
          refine va_get (D := D) (ci := 1) (v := .int c_transitions) (C := RX1) (T := TX1) (N := 13) hx hb hts hiX1 hown hK hP 1 rfl rfl 1 (by decide) f69 (fun _ h9 => h9) rfl dX2_putReachedIntoOneClass_35 ?_
          refine lv_icmp_ge (tgt := 80) hx hb dX2_putReachedIntoOneClass_38 (by decide) (fun hc => ?_) (fun hc => ?_)
          · have hf := pr_t hf hc
            refine lv_iinc (v := (v1 + (1 : Int32))) (lv' := [(1, .int (v1 + (1 : Int32))), (0, .ref (ad 3)), (2, .int v2)]) hx hb dX2_putReachedIntoOneClass_80 hl (k := 1) rfl rfl (by decide) rfl (fun ls hl => ?_)
            refine lv_goto (tgt := 17) hx hb dX2_putReachedIntoOneClass_83 (by decide) ?_
            exact ih17 c_stateClass (v1 + (1 : Int32)) H locs ls hP hD hS (lv_sub hl [1, 0] rfl) hf
          · have hf := pr_f hf hc
            refine lv_aload_n hx hb dX2_putReachedIntoOneClass_41 rfl (lv_at hl 0 rfl) ?_
            refine va_get (D := D) (ci := 2) (v := .ref (ad 19)) (C := RX2) (T := TX2) (N := 10) hx hb hts hiX2 hown hK hP 3 rfl rfl 5 (by decide) f25 (fun _ h9 => h9) rfl dX2_putReachedIntoOneClass_42 ?_
            refine lv_aload_n hx hb dX2_putReachedIntoOneClass_45 rfl (lv_at hl 0 rfl) ?_
            refine va_get (D := D) (ci := 2) (v := .ref (ad 1)) (C := RX2) (T := TX2) (N := 10) hx hb hts hiX2 hown hK hP 3 rfl rfl 0 (by decide) f41 (fun _ h9 => h9) rfl dX2_putReachedIntoOneClass_46 ?_
            refine va_get (D := D) (ci := 1) (v := .ref (ad 5)) (C := RX1) (T := TX1) (N := 13) hx hb hts hiX1 hown hK hP 1 rfl rfl 3 (by decide) f72 (fun _ h9 => h9) rfl dX2_putReachedIntoOneClass_49 ?_
            refine lv_iload_n hx hb dX2_putReachedIntoOneClass_52 rfl (lv_at hl 2 rfl) ?_
            obtain ⟨hi53, hf⟩ := pr_in hf
            refine va_iald hx hb hK hP 5 1 rfl rfl hi53 dX2_putReachedIntoOneClass_53 ?_
            obtain ⟨hi54, hf⟩ := pr_in hf
            refine va_iald hx hb hK hP 19 15 rfl rfl hi54 dX2_putReachedIntoOneClass_54 ?_
            refine lv_iconst (v := (-1 : Int32)) hx hb dX2_putReachedIntoOneClass_55 (by decide) ?_
            refine lv_icmp_eq (tgt := 74) hx hb dX2_putReachedIntoOneClass_56 (by decide) (fun hc => ?_) (fun hc => ?_)
            · have hf := pr_t hf hc
              refine lv_iinc (v := (v2 + (1 : Int32))) (lv' := [(2, .int (v2 + (1 : Int32))), (0, .ref (ad 3)), (1, .int v1)]) hx hb dX2_putReachedIntoOneClass_74 hl (k := 2) rfl rfl (by decide) rfl (fun ls hl => ?_)
              refine lv_goto (tgt := 30) hx hb dX2_putReachedIntoOneClass_77 (by decide) ?_
              exact ih30 c_stateClass v1 (v2 + (1 : Int32)) H locs ls hP hD hS (lv_sub hl [1, 2, 0] rfl) hf
            · have hf := pr_f hf hc
              refine lv_aload_n hx hb dX2_putReachedIntoOneClass_59 rfl (lv_at hl 0 rfl) ?_
              refine va_get (D := D) (ci := 2) (v := .ref (ad 19)) (C := RX2) (T := TX2) (N := 10) hx hb hts hiX2 hown hK hP 3 rfl rfl 5 (by decide) f25 (fun _ h9 => h9) rfl dX2_putReachedIntoOneClass_60 ?_
              refine lv_aload_n hx hb dX2_putReachedIntoOneClass_63 rfl (lv_at hl 0 rfl) ?_
              refine va_get (D := D) (ci := 2) (v := .ref (ad 1)) (C := RX2) (T := TX2) (N := 10) hx hb hts hiX2 hown hK hP 3 rfl rfl 0 (by decide) f41 (fun _ h9 => h9) rfl dX2_putReachedIntoOneClass_64 ?_
              refine va_get (D := D) (ci := 1) (v := .ref (ad 7)) (C := RX1) (T := TX1) (N := 13) hx hb hts hiX1 hown hK hP 1 rfl rfl 5 (by decide) f75 (fun _ h9 => h9) rfl dX2_putReachedIntoOneClass_67 ?_
              refine lv_iload_n hx hb dX2_putReachedIntoOneClass_70 rfl (lv_at hl 2 rfl) ?_
              refine va_iald hx hb hK hP 7 3 rfl rfl hi53 dX2_putReachedIntoOneClass_71 ?_
              refine lv_iconst (v := (0 : Int32)) hx hb dX2_putReachedIntoOneClass_72 (by decide) ?_
              obtain ⟨hi73, hf⟩ := pr_in hf
              refine va_iast hx hb hK hP hD hS 19 15 rfl rfl hi73 dX2_putReachedIntoOneClass_73 (fun H locs hP hD hS => ?_)
              have hP : va_P D vwCl (CW ad ca c_states c_transitions c_timerEvent c_from c_event c_next c_variable c_relation c_number c_actions c_kind c_a c_b c_present c_now c_emits c_kept c_ignores c_values c_due c_outputs c_fired c_made c_classes c_size c_taken (upd c_stateClass (c_next v2.toNatClampNeg).toNatClampNeg (0 : Int32)) c_finerClass c_usedBits c_offsets c_owners) H := hP
              have hD : va_D A (CW ad ca c_states c_transitions c_timerEvent c_from c_event c_next c_variable c_relation c_number c_actions c_kind c_a c_b c_present c_now c_emits c_kept c_ignores c_values c_due c_outputs c_fired c_made c_classes c_size c_taken (upd c_stateClass (c_next v2.toNatClampNeg).toNatClampNeg (0 : Int32)) c_finerClass c_usedBits c_offsets c_owners) := hD
              refine lv_iinc (v := (v2 + (1 : Int32))) (lv' := [(2, .int (v2 + (1 : Int32))), (0, .ref (ad 3)), (1, .int v1)]) hx hb dX2_putReachedIntoOneClass_74 hl (k := 2) rfl rfl (by decide) rfl (fun ls hl => ?_)
              refine lv_goto (tgt := 30) hx hb dX2_putReachedIntoOneClass_77 (by decide) ?_
              exact ih30 (upd c_stateClass (c_next v2.toNatClampNeg).toNatClampNeg (0 : Int32)) v1 (v2 + (1 : Int32)) H locs ls hP hD hS (lv_sub hl [1, 2, 0] rfl) hf
      intro c_stateClass v1 H locs ls hP hD hS hl hf
      replace hf : X2_putReachedIntoOneClass_B17 fu c_states c_transitions c_from c_next (X2_putReachedIntoOneClass_L17 fu c_states c_transitions c_from c_next  n17) c_stateClass v1 = some o := hf
      unfold X2_putReachedIntoOneClass_B17 at hf
      refine lv_iload_n hx hb dX2_putReachedIntoOneClass_17 rfl (lv_at hl 1 rfl) ?_
      refine lv_aload_n hx hb dX2_putReachedIntoOneClass_18 rfl (lv_at hl 0 rfl) ?_
      refine va_get (D := D) (ci := 2) (v := .ref (ad 1)) (C := RX2) (T := TX2) (N := 10) hx hb hts hiX2 hown hK hP 3 rfl rfl 0 (by decide) f41 (fun _ h9 => h9) rfl dX2_putReachedIntoOneClass_19 ?_
      refine va_get (D := D) (ci := 1) (v := .int c_states) (C := RX1) (T := TX1) (N := 13) hx hb hts hiX1 hown hK hP 1 rfl rfl 0 (by decide) f64 (fun _ h9 => h9) rfl dX2_putReachedIntoOneClass_22 ?_
      refine lv_icmp_ge (tgt := 86) hx hb dX2_putReachedIntoOneClass_25 (by decide) (fun hc => ?_) (fun hc => ?_)
      · have hf := pr_t hf hc
        obtain rfl := Option.some.inj hf
        subst hZ
        exact pw_rv hx hb hr hlocks hK hP hD hS (Nat.le_of_ble_eq_true rfl) (Nat.le_of_ble_eq_true rfl) dX2_putReachedIntoOneClass_86
      · have hf := pr_f hf hc
        refine lv_iconst (v := (0 : Int32)) hx hb dX2_putReachedIntoOneClass_28 (by decide) ?_
        refine lv_istore_n (lv' := [(2, .int (0 : Int32)), (0, .ref (ad 3)), (1, .int v1)]) hx hb dX2_putReachedIntoOneClass_29 rfl hl (by decide) rfl (fun ls hl => ?_)
        exact L30 fu c_stateClass v1 (0 : Int32) H locs ls hP hD hS (lv_sub hl [1, 2, 0] rfl) hf
  unfold X2_putReachedIntoOneClass at hf
  refine lv_aload_n hx hb dX2_putReachedIntoOneClass_0 rfl (lv_at hl 0 rfl) ?_
  refine va_get (D := D) (ci := 2) (v := .ref (ad 19)) (C := RX2) (T := TX2) (N := 10) hx hb hts hiX2 hown hK hP 3 rfl rfl 5 (by decide) f25 (fun _ h9 => h9) rfl dX2_putReachedIntoOneClass_1 ?_
  refine lv_iconst (v := (-1 : Int32)) hx hb dX2_putReachedIntoOneClass_4 (by decide) ?_
  obtain ⟨x5, hg5, hf⟩ := pr_b hf
  have hKc := hK.sub (tys' := [(ca 19, .int)]) [15] rfl
  refine pw_cSvP (As := [.ref (ad 19), .int (-1 : Int32)]) (rest := []) ⟨hx, hb, hml, hown, hts⟩ (c_J7_fill_53178 fu (D := D) 12 (ad 19) (ca 19) c_stateClass (-1 : Int32) hg5) (va_cwS 2 hts gX2_putReachedIntoOneClass_J7_fill_53178 rfl rfl rfl (by decide +kernel) ⟨Nat.le_of_ble_eq_true rfl, Nat.le_of_ble_eq_true rfl⟩) hKc hP hD hS hA [19] [0, 1, 2, 3, 4, 5, 6, 7, 8, 9, 10, 11, 12, 13, 14, 15, 16, 17, 18, 20, 21, 22, 23] rfl rfl (by decide) (by decide) (by decide) rfl hl.1 rfl (Nat.le_of_ble_eq_true rfl) dX2_putReachedIntoOneClass_5 ⟨Nat.le_of_ble_eq_true rfl, Nat.le_of_ble_eq_true rfl⟩ (fun H locs hP hD hS => ?_)
  have hP := hP.sub (ws' := (CW ad ca c_states c_transitions c_timerEvent c_from c_event c_next c_variable c_relation c_number c_actions c_kind c_a c_b c_present c_now c_emits c_kept c_ignores c_values c_due c_outputs c_fired c_made c_classes c_size c_taken x5 c_finerClass c_usedBits c_offsets c_owners)) [0, 1, 2, 3, 4, 5, 6, 7, 8, 9, 10, 11, 12, 13, 14, 15, 16, 17, 18, 23, 19, 20, 21, 22] rfl
  have hD := hD.sub (ws' := (CW ad ca c_states c_transitions c_timerEvent c_from c_event c_next c_variable c_relation c_number c_actions c_kind c_a c_b c_present c_now c_emits c_kept c_ignores c_values c_due c_outputs c_fired c_made c_classes c_size c_taken x5 c_finerClass c_usedBits c_offsets c_owners)) [0, 1, 2, 3, 4, 5, 6, 7, 8, 9, 10, 11, 12, 13, 14, 15, 16, 17, 18, 23, 19, 20, 21, 22] (by decide) rfl
  refine lv_aload_n hx hb dX2_putReachedIntoOneClass_8 rfl (lv_at hl 0 rfl) ?_
  refine va_get (D := D) (ci := 2) (v := .ref (ad 19)) (C := RX2) (T := TX2) (N := 10) hx hb hts hiX2 hown hK hP 3 rfl rfl 5 (by decide) f25 (fun _ h9 => h9) rfl dX2_putReachedIntoOneClass_9 ?_
  refine lv_iconst (v := (0 : Int32)) hx hb dX2_putReachedIntoOneClass_12 (by decide) ?_
  refine lv_iconst (v := (0 : Int32)) hx hb dX2_putReachedIntoOneClass_13 (by decide) ?_
  refine va_iast hx hb hK hP hD hS 19 15 rfl rfl (by unfold vp_in; decide) dX2_putReachedIntoOneClass_14 (fun H locs hP hD hS => ?_)
  have hP : va_P D vwCl (CW ad ca c_states c_transitions c_timerEvent c_from c_event c_next c_variable c_relation c_number c_actions c_kind c_a c_b c_present c_now c_emits c_kept c_ignores c_values c_due c_outputs c_fired c_made c_classes c_size c_taken (upd x5 (0 : Int32).toNatClampNeg (0 : Int32)) c_finerClass c_usedBits c_offsets c_owners) H := hP
  have hD : va_D A (CW ad ca c_states c_transitions c_timerEvent c_from c_event c_next c_variable c_relation c_number c_actions c_kind c_a c_b c_present c_now c_emits c_kept c_ignores c_values c_due c_outputs c_fired c_made c_classes c_size c_taken (upd x5 (0 : Int32).toNatClampNeg (0 : Int32)) c_finerClass c_usedBits c_offsets c_owners) := hD
  refine lv_iconst (v := (0 : Int32)) hx hb dX2_putReachedIntoOneClass_15 (by decide) ?_
  refine lv_istore_n (lv' := [(1, .int (0 : Int32)), (0, .ref (ad 3))]) hx hb dX2_putReachedIntoOneClass_16 rfl hl (by decide) rfl (fun ls hl => ?_)
  exact L17 fu (upd x5 (0 : Int32).toNatClampNeg (0 : Int32)) (0 : Int32) H locs ls hP hD hS (lv_sub hl [1, 0] rfl) hf
abbrev rmX2_haveSameCells : Room := { frames := 1, cells := 0, slots := 0, locals := 26 }
set_option maxHeartbeats 4000000 in
set_option maxRecDepth 100000 in
theorem c_X2_haveSameCells {l : Launch} {D : va_G} {ad : Nat → Nat} {ca : Nat → ClassId} (fu : Nat) (c_states c_transitions : Int32) (c_timerEvent c_from c_event c_next c_variable c_relation c_number c_actions c_kind c_a c_b : Nat → Int32) (c_present : Int32) (c_now : Int64) (c_emits c_kept c_ignores : Int32) (c_values : Nat → Int32) (c_due : Nat → Int64) (c_outputs c_fired : Nat → Int32) (c_made c_classes c_size c_taken : Int32) (c_stateClass c_finerClass c_usedBits c_offsets c_owners : Nat → Int32) (v1 v2 v3 : Int32) {o : Int32} (hf : X2_haveSameCells fu c_transitions c_from c_event c_next c_variable c_relation c_number c_actions c_kind c_a c_b c_stateClass v1 v2 v3 = some o) : Ci l yX2_haveSameCells wsX2_haveSameCells rmX2_haveSameCells D (CT ca) (CW ad ca c_states c_transitions c_timerEvent c_from c_event c_next c_variable c_relation c_number c_actions c_kind c_a c_b c_present c_now c_emits c_kept c_ignores c_values c_due c_outputs c_fired c_made c_classes c_size c_taken c_stateClass c_finerClass c_usedBits c_offsets c_owners) [.ref (ad 3), .int v1, .int v2, .int v3] o (CW ad ca c_states c_transitions c_timerEvent c_from c_event c_next c_variable c_relation c_number c_actions c_kind c_a c_b c_present c_now c_emits c_kept c_ignores c_values c_due c_outputs c_fired c_made c_classes c_size c_taken c_stateClass c_finerClass c_usedBits c_offsets c_owners) := by
  intro sz
  refine pw_entry (Qc := fun A => pw_Qi D (CT ca) (CW ad ca c_states c_transitions c_timerEvent c_from c_event c_next c_variable c_relation c_number c_actions c_kind c_a c_b c_present c_now c_emits c_kept c_ignores c_values c_due c_outputs c_fired c_made c_classes c_size c_taken c_stateClass c_finerClass c_usedBits c_offsets c_owners) A o) (cc := cX2_haveSameCells) (maxL := 8) (ret := (some .boolean)) (by decide) rfl (Nat.le_of_ble_eq_true rfl) ?_ sz
  intro p e s m args below meth c A ls Z H locs hx hb hr hlocks hts hown hml hnm hK hP hD hS hA hl hZ
  have hown : s.vm.findClass RX2 = some m.cls := hown
  have hiX1 : ∀ w ∈ u_ws RX1 TX1 13, w ∈ wsX2_haveSameCells := by decide +kernel
  have hiX2 : ∀ w ∈ u_ws RX2 TX2 10, w ∈ wsX2_haveSameCells := by decide +kernel
  have f25 := hts (.fieldLink RX2 25 "ProtocolMachine$Table" "stateClass" "[I") (by decide +kernel)
  have f41 := hts (.fieldLink RX2 41 "ProtocolMachine$Table" "protocol" "LProtocolMachine$Protocol;") (by decide +kernel)
  have f75 := hts (.fieldLink RX2 75 "ProtocolMachine$Protocol" "next" "[I") (by decide +kernel)
  have hl : lv_has ls 8 [(0, .ref (ad 3)), (1, .int v1), (2, .int v2), (3, .int v3)] := hl
  have B139 : ∀ (v4 v5 : Int32) (H : Heap) (locs : List Loc) (ls : Array Slot), va_P D vwCl (CW ad ca c_states c_transitions c_timerEvent c_from c_event c_next c_variable c_relation c_number c_actions c_kind c_a c_b c_present c_now c_emits c_kept c_ignores c_values c_due c_outputs c_fired c_made c_classes c_size c_taken c_stateClass c_finerClass c_usedBits c_offsets c_owners) H → va_D A (CW ad ca c_states c_transitions c_timerEvent c_from c_event c_next c_variable c_relation c_number c_actions c_kind c_a c_b c_present c_now c_emits c_kept c_ignores c_values c_due c_outputs c_fired c_made c_classes c_size c_taken c_stateClass c_finerClass c_usedBits c_offsets c_owners) → va_S A s.heap H locs → lv_has ls 8 [(4, .int v4), (5, .int v5)] → X2_haveSameCells_B139 v4 v5 = some o → W p l e rmX2_haveSameCells s m args below meth c H locs 0 0 Z (F0 m 139 ls []) := by
    intro v4 v5 H locs ls hP hD hS hl hf
    unfold X2_haveSameCells_B139 at hf
    refine lv_iload hx hb dX2_haveSameCells_139 (lv_at hl 0 rfl) ?_
    refine lv_iconst (v := (-1 : Int32)) hx hb dX2_haveSameCells_141 (by decide) ?_
    refine lv_icmp_ne (tgt := 155) hx hb dX2_haveSameCells_142 (by decide) (fun hc => ?_) (fun hc => ?_)
    · have hf := pr_f hf hc
      refine lv_iconst (v := (0 : Int32)) hx hb dX2_haveSameCells_155 (by decide) ?_
      obtain rfl := Option.some.inj hf
      subst hZ
      exact pw_rz hx hb hr hlocks (Or.inl rfl) hK hP hD hS (Nat.le_of_ble_eq_true rfl) (Nat.le_of_ble_eq_true rfl) dX2_haveSameCells_156
    · have hf := pr_t hf hc
      refine lv_iload hx hb dX2_haveSameCells_145 (lv_at hl 1 rfl) ?_
      refine lv_iconst (v := (-1 : Int32)) hx hb dX2_haveSameCells_147 (by decide) ?_
      refine lv_icmp_ne (tgt := 155) hx hb dX2_haveSameCells_148 (by decide) (fun hc => ?_) (fun hc => ?_)
      · have hf := pr_f hf hc
        refine lv_iconst (v := (0 : Int32)) hx hb dX2_haveSameCells_155 (by decide) ?_
        obtain rfl := Option.some.inj hf
        subst hZ
        exact pw_rz hx hb hr hlocks (Or.inl rfl) hK hP hD hS (Nat.le_of_ble_eq_true rfl) (Nat.le_of_ble_eq_true rfl) dX2_haveSameCells_156
      · have hf := pr_t hf hc
        refine lv_iconst (v := (1 : Int32)) hx hb dX2_haveSameCells_151 (by decide) ?_
        refine lv_goto (tgt := 156) hx hb dX2_haveSameCells_152 (by decide) ?_
        obtain rfl := Option.some.inj hf
        subst hZ
        exact pw_rz hx hb hr hlocks (Or.inr rfl) hK hP hD hS (Nat.le_of_ble_eq_true rfl) (Nat.le_of_ble_eq_true rfl) dX2_haveSameCells_156
  have L27 : ∀ n27 : Nat, ∀ (v4 v5 v6 : Int32) (H : Heap) (locs : List Loc) (ls : Array Slot), va_P D vwCl (CW ad ca c_states c_transitions c_timerEvent c_from c_event c_next c_variable c_relation c_number c_actions c_kind c_a c_b c_present c_now c_emits c_kept c_ignores c_values c_due c_outputs c_fired c_made c_classes c_size c_taken c_stateClass c_finerClass c_usedBits c_offsets c_owners) H → va_D A (CW ad ca c_states c_transitions c_timerEvent c_from c_event c_next c_variable c_relation c_number c_actions c_kind c_a c_b c_present c_now c_emits c_kept c_ignores c_values c_due c_outputs c_fired c_made c_classes c_size c_taken c_stateClass c_finerClass c_usedBits c_offsets c_owners) → va_S A s.heap H locs → lv_has ls 8 [(0, .ref (ad 3)), (1, .int v1), (2, .int v2), (3, .int v3), (4, .int v4), (5, .int v5), (6, .int v6)] → X2_haveSameCells_L27 fu c_transitions c_from c_event c_next c_variable c_relation c_number c_actions c_kind c_a c_b c_stateClass v1 v2 v3 n27 v4 v5 v6 = some o → W p l e rmX2_haveSameCells s m args below meth c H locs 0 0 Z (F0 m 27 ls []) := by
    intro n27
    induction n27 with
    | zero =>
      intro v4 v5 v6 H locs ls hP hD hS hl hf
      exact pr_n hf
    | succ n27 ih27 =>
      have B84 : ∀ (v4 v5 v6 s0 : Int32) (H : Heap) (locs : List Loc) (ls : Array Slot), va_P D vwCl (CW ad ca c_states c_transitions c_timerEvent c_from c_event c_next c_variable c_relation c_number c_actions c_kind c_a c_b c_present c_now c_emits c_kept c_ignores c_values c_due c_outputs c_fired c_made c_classes c_size c_taken c_stateClass c_finerClass c_usedBits c_offsets c_owners) H → va_D A (CW ad ca c_states c_transitions c_timerEvent c_from c_event c_next c_variable c_relation c_number c_actions c_kind c_a c_b c_present c_now c_emits c_kept c_ignores c_values c_due c_outputs c_fired c_made c_classes c_size c_taken c_stateClass c_finerClass c_usedBits c_offsets c_owners) → va_S A s.heap H locs → lv_has ls 8 [(0, .ref (ad 3)), (1, .int v1), (2, .int v2), (3, .int v3), (4, .int v4), (5, .int v5), (6, .int v6)] → X2_haveSameCells_B84 fu c_transitions c_from c_event c_variable c_relation c_number c_actions c_kind c_a c_b v1 v2 v3 (X2_haveSameCells_L27 fu c_transitions c_from c_event c_next c_variable c_relation c_number c_actions c_kind c_a c_b c_stateClass v1 v2 v3 n27) v4 v5 v6 s0 = some o → W p l e rmX2_haveSameCells s m args below meth c H locs 0 0 Z (F0 m 84 ls [.int s0]) := by
        intro v4 v5 v6 s0 H locs ls hP hD hS hl hf
        unfold X2_haveSameCells_B84 at hf
        refine lv_istore (lv' := [(7, .int s0), (0, .ref (ad 3)), (1, .int v1), (2, .int v2), (3, .int v3), (4, .int v4), (5, .int v5), (6, .int v6)]) hx hb dX2_haveSameCells_84 hl (by decide) rfl (fun ls hl => ?_)
        refine lv_iload hx hb dX2_haveSameCells_86 (lv_at hl 0 rfl) ?_
        refine lv_if_eq (tgt := 105) hx hb dX2_haveSameCells_88 (by decide) (fun hc => ?_) (fun hc => ?_)
        · have hf := pr_t hf hc
          refine lv_iconst (v := (0 : Int32)) hx hb dX2_haveSameCells_105 (by decide) ?_
          obtain rfl := Option.some.inj hf
          subst hZ
          exact pw_rz hx hb hr hlocks (Or.inl rfl) hK hP hD hS (Nat.le_of_ble_eq_true rfl) (Nat.le_of_ble_eq_true rfl) dX2_haveSameCells_106
        · have hf := pr_f hf hc
          refine lv_aload_n hx hb dX2_haveSameCells_91 rfl (lv_at hl 1 rfl) ?_
          refine va_get (D := D) (ci := 2) (v := .ref (ad 1)) (C := RX2) (T := TX2) (N := 10) hx hb hts hiX2 hown hK hP 3 rfl rfl 0 (by decide) f41 (fun _ h9 => h9) rfl dX2_haveSameCells_92 ?_
          refine lv_iload hx hb dX2_haveSameCells_95 (lv_at hl 5 rfl) ?_
          refine lv_iload hx hb dX2_haveSameCells_97 (lv_at hl 6 rfl) ?_
          obtain ⟨x99, hg99, hf⟩ := pr_b hf
          refine pw_cViW (b := ad 1) (As := [.int v4, .int v5]) (rest := []) ⟨hx, hb, hml, hown, hts⟩ (c_X1_doTheSame fu (D := D) c_states c_transitions c_timerEvent c_from c_event c_next c_variable c_relation c_number c_actions c_kind c_a c_b c_present c_now c_emits c_kept c_ignores c_values c_due c_outputs c_fired c_made c_classes c_size c_taken c_stateClass c_finerClass c_usedBits c_offsets c_owners v4 v5 hg99) (cwV 2 hts gX2_haveSameCells_X1_doTheSame rfl rfl rfl (by decide +kernel) ⟨Nat.le_of_ble_eq_true rfl, Nat.le_of_ble_eq_true rfl⟩) 1 1 rfl rfl hK hP hD hS hA rfl hl.1 rfl (Nat.le_of_ble_eq_true rfl) dX2_haveSameCells_99 ⟨Nat.le_of_ble_eq_true rfl, Nat.le_of_ble_eq_true rfl⟩ (fun H locs hP hD hS => ?_)
          refine lv_if_ne (tgt := 107) hx hb dX2_haveSameCells_102 (by decide) (fun hc => ?_) (fun hc => ?_)
          · have hf := pr_f hf hc
            refine lv_aload_n hx hb dX2_haveSameCells_107 rfl (lv_at hl 1 rfl) ?_
            refine va_get (D := D) (ci := 2) (v := .ref (ad 1)) (C := RX2) (T := TX2) (N := 10) hx hb hts hiX2 hown hK hP 3 rfl rfl 0 (by decide) f41 (fun _ h9 => h9) rfl dX2_haveSameCells_108 ?_
            refine lv_iload hx hb dX2_haveSameCells_111 (lv_at hl 5 rfl) ?_
            refine lv_iload_n hx hb dX2_haveSameCells_113 rfl (lv_at hl 2 rfl) ?_
            refine lv_iload_n hx hb dX2_haveSameCells_114 rfl (lv_at hl 4 rfl) ?_
            obtain ⟨x115, hg115, hf⟩ := pr_b hf
            refine pw_cViW (b := ad 1) (As := [.int v4, .int v1, .int v3]) (rest := []) ⟨hx, hb, hml, hown, hts⟩ (c_X1_firstBehind fu (D := D) c_states c_transitions c_timerEvent c_from c_event c_next c_variable c_relation c_number c_actions c_kind c_a c_b c_present c_now c_emits c_kept c_ignores c_values c_due c_outputs c_fired c_made c_classes c_size c_taken c_stateClass c_finerClass c_usedBits c_offsets c_owners v4 v1 v3 hg115) (cwV 3 hts gX2_haveSameCells_X1_firstBehind rfl rfl rfl (by decide +kernel) ⟨Nat.le_of_ble_eq_true rfl, Nat.le_of_ble_eq_true rfl⟩) 1 1 rfl rfl hK hP hD hS hA rfl hl.1 rfl (Nat.le_of_ble_eq_true rfl) dX2_haveSameCells_115 ⟨Nat.le_of_ble_eq_true rfl, Nat.le_of_ble_eq_true rfl⟩ (fun H locs hP hD hS => ?_)
            refine lv_istore (lv' := [(4, .int x115), (7, .int s0), (0, .ref (ad 3)), (1, .int v1), (2, .int v2), (3, .int v3), (5, .int v5), (6, .int v6)]) hx hb dX2_haveSameCells_118 hl (by decide) rfl (fun ls hl => ?_)
            refine lv_aload_n hx hb dX2_haveSameCells_120 rfl (lv_at hl 2 rfl) ?_
            refine va_get (D := D) (ci := 2) (v := .ref (ad 1)) (C := RX2) (T := TX2) (N := 10) hx hb hts hiX2 hown hK hP 3 rfl rfl 0 (by decide) f41 (fun _ h9 => h9) rfl dX2_haveSameCells_121 ?_
            refine lv_iload hx hb dX2_haveSameCells_124 (lv_at hl 6 rfl) ?_
            refine lv_iload_n hx hb dX2_haveSameCells_126 rfl (lv_at hl 4 rfl) ?_
            refine lv_iload_n hx hb dX2_haveSameCells_127 rfl (lv_at hl 5 rfl) ?_
            obtain ⟨x128, hg128, hf⟩ := pr_b hf
            refine pw_cViW (b := ad 1) (As := [.int v5, .int v2, .int v3]) (rest := []) ⟨hx, hb, hml, hown, hts⟩ (c_X1_firstBehind fu (D := D) c_states c_transitions c_timerEvent c_from c_event c_next c_variable c_relation c_number c_actions c_kind c_a c_b c_present c_now c_emits c_kept c_ignores c_values c_due c_outputs c_fired c_made c_classes c_size c_taken c_stateClass c_finerClass c_usedBits c_offsets c_owners v5 v2 v3 hg128) (cwV 3 hts gX2_haveSameCells_X1_firstBehind rfl rfl rfl (by decide +kernel) ⟨Nat.le_of_ble_eq_true rfl, Nat.le_of_ble_eq_true rfl⟩) 1 1 rfl rfl hK hP hD hS hA rfl hl.1 rfl (Nat.le_of_ble_eq_true rfl) dX2_haveSameCells_128 ⟨Nat.le_of_ble_eq_true rfl, Nat.le_of_ble_eq_true rfl⟩ (fun H locs hP hD hS => ?_)
            refine lv_istore (lv' := [(5, .int x128), (4, .int x115), (7, .int s0), (0, .ref (ad 3)), (1, .int v1), (2, .int v2), (3, .int v3), (6, .int v6)]) hx hb dX2_haveSameCells_131 hl (by decide) rfl (fun ls hl => ?_)
            refine lv_iinc (v := (v6 + (1 : Int32))) (lv' := [(6, .int (v6 + (1 : Int32))), (5, .int x128), (4, .int x115), (7, .int s0), (0, .ref (ad 3)), (1, .int v1), (2, .int v2), (3, .int v3)]) hx hb dX2_haveSameCells_133 hl (k := 7) rfl rfl (by decide) rfl (fun ls hl => ?_)
            refine lv_goto (tgt := 27) hx hb dX2_haveSameCells_136 (by decide) ?_
            exact ih27 x115 x128 (v6 + (1 : Int32)) H locs ls hP hD hS (lv_sub hl [4, 5, 6, 7, 2, 1, 0] rfl) hf
          · have hf := pr_t hf hc
            refine lv_iconst (v := (0 : Int32)) hx hb dX2_haveSameCells_105 (by decide) ?_
            obtain rfl := Option.some.inj hf
            subst hZ
            exact pw_rz hx hb hr hlocks (Or.inl rfl) hK hP hD hS (Nat.le_of_ble_eq_true rfl) (Nat.le_of_ble_eq_true rfl) dX2_haveSameCells_106
      intro v4 v5 v6 H locs ls hP hD hS hl hf
      replace hf : X2_haveSameCells_B27 fu c_transitions c_from c_event c_next c_variable c_relation c_number c_actions c_kind c_a c_b c_stateClass v1 v2 v3 (X2_haveSameCells_L27 fu c_transitions c_from c_event c_next c_variable c_relation c_number c_actions c_kind c_a c_b c_stateClass v1 v2 v3  n27) v4 v5 v6 = some o := hf
      unfold X2_haveSameCells_B27 at hf
      refine lv_iload hx hb dX2_haveSameCells_27 (lv_at hl 6 rfl) ?_
      refine lv_bipush (v := (40 : Int32)) hx hb dX2_haveSameCells_29 (by decide) ?_
      refine lv_icmp_ge (tgt := 139) hx hb dX2_haveSameCells_31 (by decide) (fun hc => ?_) (fun hc => ?_)
      · have hf := pr_t hf hc
        exact B139 v4 v5 H locs ls hP hD hS (lv_sub hl [4, 5] rfl) hf
      · have hf := pr_f hf hc
        refine lv_iload hx hb dX2_haveSameCells_34 (lv_at hl 4 rfl) ?_
        refine lv_iconst (v := (-1 : Int32)) hx hb dX2_haveSameCells_36 (by decide) ?_
        refine lv_icmp_eq (tgt := 139) hx hb dX2_haveSameCells_37 (by decide) (fun hc => ?_) (fun hc => ?_)
        · have hf := pr_t hf hc
          exact B139 v4 v5 H locs ls hP hD hS (lv_sub hl [4, 5] rfl) hf
        · have hf := pr_f hf hc
          refine lv_iload hx hb dX2_haveSameCells_40 (lv_at hl 5 rfl) ?_
          refine lv_iconst (v := (-1 : Int32)) hx hb dX2_haveSameCells_42 (by decide) ?_
          refine lv_icmp_eq (tgt := 139) hx hb dX2_haveSameCells_43 (by decide) (fun hc => ?_) (fun hc => ?_)
          · have hf := pr_t hf hc
            exact B139 v4 v5 H locs ls hP hD hS (lv_sub hl [4, 5] rfl) hf
          · have hf := pr_f hf hc
            refine lv_aload_n hx hb dX2_haveSameCells_46 rfl (lv_at hl 0 rfl) ?_
            refine va_get (D := D) (ci := 2) (v := .ref (ad 19)) (C := RX2) (T := TX2) (N := 10) hx hb hts hiX2 hown hK hP 3 rfl rfl 5 (by decide) f25 (fun _ h9 => h9) rfl dX2_haveSameCells_47 ?_
            refine lv_aload_n hx hb dX2_haveSameCells_50 rfl (lv_at hl 0 rfl) ?_
            refine va_get (D := D) (ci := 2) (v := .ref (ad 1)) (C := RX2) (T := TX2) (N := 10) hx hb hts hiX2 hown hK hP 3 rfl rfl 0 (by decide) f41 (fun _ h9 => h9) rfl dX2_haveSameCells_51 ?_
            refine va_get (D := D) (ci := 1) (v := .ref (ad 7)) (C := RX1) (T := TX1) (N := 13) hx hb hts hiX1 hown hK hP 1 rfl rfl 5 (by decide) f75 (fun _ h9 => h9) rfl dX2_haveSameCells_54 ?_
            refine lv_iload hx hb dX2_haveSameCells_57 (lv_at hl 4 rfl) ?_
            obtain ⟨hi59, hf⟩ := pr_in hf
            refine va_iald hx hb hK hP 7 3 rfl rfl hi59 dX2_haveSameCells_59 ?_
            obtain ⟨hi60, hf⟩ := pr_in hf
            refine va_iald hx hb hK hP 19 15 rfl rfl hi60 dX2_haveSameCells_60 ?_
            refine lv_aload_n hx hb dX2_haveSameCells_61 rfl (lv_at hl 0 rfl) ?_
            refine va_get (D := D) (ci := 2) (v := .ref (ad 19)) (C := RX2) (T := TX2) (N := 10) hx hb hts hiX2 hown hK hP 3 rfl rfl 5 (by decide) f25 (fun _ h9 => h9) rfl dX2_haveSameCells_62 ?_
            refine lv_aload_n hx hb dX2_haveSameCells_65 rfl (lv_at hl 0 rfl) ?_
            refine va_get (D := D) (ci := 2) (v := .ref (ad 1)) (C := RX2) (T := TX2) (N := 10) hx hb hts hiX2 hown hK hP 3 rfl rfl 0 (by decide) f41 (fun _ h9 => h9) rfl dX2_haveSameCells_66 ?_
            refine va_get (D := D) (ci := 1) (v := .ref (ad 7)) (C := RX1) (T := TX1) (N := 13) hx hb hts hiX1 hown hK hP 1 rfl rfl 5 (by decide) f75 (fun _ h9 => h9) rfl dX2_haveSameCells_69 ?_
            refine lv_iload hx hb dX2_haveSameCells_72 (lv_at hl 5 rfl) ?_
            obtain ⟨hi74, hf⟩ := pr_in hf
            refine va_iald hx hb hK hP 7 3 rfl rfl hi74 dX2_haveSameCells_74 ?_
            obtain ⟨hi75, hf⟩ := pr_in hf
            refine va_iald hx hb hK hP 19 15 rfl rfl hi75 dX2_haveSameCells_75 ?_
            refine lv_icmp_ne (tgt := 83) hx hb dX2_haveSameCells_76 (by decide) (fun hc => ?_) (fun hc => ?_)
            · have hf := pr_f hf hc
              refine lv_iconst (v := (0 : Int32)) hx hb dX2_haveSameCells_83 (by decide) ?_
              exact B84 v4 v5 v6 (0 : Int32) H locs ls hP hD hS (lv_sub hl [0, 1, 2, 3, 4, 5, 6] rfl) hf
            · have hf := pr_t hf hc
              refine lv_iconst (v := (1 : Int32)) hx hb dX2_haveSameCells_79 (by decide) ?_
              refine lv_goto (tgt := 84) hx hb dX2_haveSameCells_80 (by decide) ?_
              exact B84 v4 v5 v6 (1 : Int32) H locs ls hP hD hS (lv_sub hl [0, 1, 2, 3, 4, 5, 6] rfl) hf
  unfold X2_haveSameCells at hf
  refine lv_aload_n hx hb dX2_haveSameCells_0 rfl (lv_at hl 0 rfl) ?_
  refine va_get (D := D) (ci := 2) (v := .ref (ad 1)) (C := RX2) (T := TX2) (N := 10) hx hb hts hiX2 hown hK hP 3 rfl rfl 0 (by decide) f41 (fun _ h9 => h9) rfl dX2_haveSameCells_1 ?_
  refine lv_iconst (v := (-1 : Int32)) hx hb dX2_haveSameCells_4 (by decide) ?_
  refine lv_iload_n hx hb dX2_haveSameCells_5 rfl (lv_at hl 1 rfl) ?_
  refine lv_iload_n hx hb dX2_haveSameCells_6 rfl (lv_at hl 3 rfl) ?_
  obtain ⟨x7, hg7, hf⟩ := pr_b hf
  refine pw_cViW (b := ad 1) (As := [.int (-1 : Int32), .int v1, .int v3]) (rest := []) ⟨hx, hb, hml, hown, hts⟩ (c_X1_firstBehind fu (D := D) c_states c_transitions c_timerEvent c_from c_event c_next c_variable c_relation c_number c_actions c_kind c_a c_b c_present c_now c_emits c_kept c_ignores c_values c_due c_outputs c_fired c_made c_classes c_size c_taken c_stateClass c_finerClass c_usedBits c_offsets c_owners (-1 : Int32) v1 v3 hg7) (cwV 3 hts gX2_haveSameCells_X1_firstBehind rfl rfl rfl (by decide +kernel) ⟨Nat.le_of_ble_eq_true rfl, Nat.le_of_ble_eq_true rfl⟩) 1 1 rfl rfl hK hP hD hS hA rfl hl.1 rfl (Nat.le_of_ble_eq_true rfl) dX2_haveSameCells_7 ⟨Nat.le_of_ble_eq_true rfl, Nat.le_of_ble_eq_true rfl⟩ (fun H locs hP hD hS => ?_)
  refine lv_istore (lv' := [(4, .int x7), (0, .ref (ad 3)), (1, .int v1), (2, .int v2), (3, .int v3)]) hx hb dX2_haveSameCells_10 hl (by decide) rfl (fun ls hl => ?_)
  refine lv_aload_n hx hb dX2_haveSameCells_12 rfl (lv_at hl 1 rfl) ?_
  refine va_get (D := D) (ci := 2) (v := .ref (ad 1)) (C := RX2) (T := TX2) (N := 10) hx hb hts hiX2 hown hK hP 3 rfl rfl 0 (by decide) f41 (fun _ h9 => h9) rfl dX2_haveSameCells_13 ?_
  refine lv_iconst (v := (-1 : Int32)) hx hb dX2_haveSameCells_16 (by decide) ?_
  refine lv_iload_n hx hb dX2_haveSameCells_17 rfl (lv_at hl 3 rfl) ?_
  refine lv_iload_n hx hb dX2_haveSameCells_18 rfl (lv_at hl 4 rfl) ?_
  obtain ⟨x19, hg19, hf⟩ := pr_b hf
  refine pw_cViW (b := ad 1) (As := [.int (-1 : Int32), .int v2, .int v3]) (rest := []) ⟨hx, hb, hml, hown, hts⟩ (c_X1_firstBehind fu (D := D) c_states c_transitions c_timerEvent c_from c_event c_next c_variable c_relation c_number c_actions c_kind c_a c_b c_present c_now c_emits c_kept c_ignores c_values c_due c_outputs c_fired c_made c_classes c_size c_taken c_stateClass c_finerClass c_usedBits c_offsets c_owners (-1 : Int32) v2 v3 hg19) (cwV 3 hts gX2_haveSameCells_X1_firstBehind rfl rfl rfl (by decide +kernel) ⟨Nat.le_of_ble_eq_true rfl, Nat.le_of_ble_eq_true rfl⟩) 1 1 rfl rfl hK hP hD hS hA rfl hl.1 rfl (Nat.le_of_ble_eq_true rfl) dX2_haveSameCells_19 ⟨Nat.le_of_ble_eq_true rfl, Nat.le_of_ble_eq_true rfl⟩ (fun H locs hP hD hS => ?_)
  refine lv_istore (lv' := [(5, .int x19), (4, .int x7), (0, .ref (ad 3)), (1, .int v1), (2, .int v2), (3, .int v3)]) hx hb dX2_haveSameCells_22 hl (by decide) rfl (fun ls hl => ?_)
  refine lv_iconst (v := (0 : Int32)) hx hb dX2_haveSameCells_24 (by decide) ?_
  refine lv_istore (lv' := [(6, .int (0 : Int32)), (5, .int x19), (4, .int x7), (0, .ref (ad 3)), (1, .int v1), (2, .int v2), (3, .int v3)]) hx hb dX2_haveSameCells_25 hl (by decide) rfl (fun ls hl => ?_)
  exact L27 fu x7 x19 (0 : Int32) H locs ls hP hD hS (lv_sub hl [3, 4, 5, 6, 2, 1, 0] rfl) hf
abbrev rmX2_haveSameRows : Room := { frames := 2, cells := 0, slots := 0, locals := 53 }
set_option maxHeartbeats 4000000 in
set_option maxRecDepth 100000 in
theorem c_X2_haveSameRows {l : Launch} {D : va_G} {ad : Nat → Nat} {ca : Nat → ClassId} (fu : Nat) (c_states c_transitions : Int32) (c_timerEvent c_from c_event c_next c_variable c_relation c_number c_actions c_kind c_a c_b : Nat → Int32) (c_present : Int32) (c_now : Int64) (c_emits c_kept c_ignores : Int32) (c_values : Nat → Int32) (c_due : Nat → Int64) (c_outputs c_fired : Nat → Int32) (c_made c_classes c_size c_taken : Int32) (c_stateClass c_finerClass c_usedBits c_offsets c_owners : Nat → Int32) (v1 v2 : Int32) {o : Int32} (hf : X2_haveSameRows fu c_transitions c_from c_event c_next c_variable c_relation c_number c_actions c_kind c_a c_b c_stateClass v1 v2 = some o) : Ci l yX2_haveSameRows wsX2_haveSameRows rmX2_haveSameRows D (CT ca) (CW ad ca c_states c_transitions c_timerEvent c_from c_event c_next c_variable c_relation c_number c_actions c_kind c_a c_b c_present c_now c_emits c_kept c_ignores c_values c_due c_outputs c_fired c_made c_classes c_size c_taken c_stateClass c_finerClass c_usedBits c_offsets c_owners) [.ref (ad 3), .int v1, .int v2] o (CW ad ca c_states c_transitions c_timerEvent c_from c_event c_next c_variable c_relation c_number c_actions c_kind c_a c_b c_present c_now c_emits c_kept c_ignores c_values c_due c_outputs c_fired c_made c_classes c_size c_taken c_stateClass c_finerClass c_usedBits c_offsets c_owners) := by
  intro sz
  refine pw_entry (Qc := fun A => pw_Qi D (CT ca) (CW ad ca c_states c_transitions c_timerEvent c_from c_event c_next c_variable c_relation c_number c_actions c_kind c_a c_b c_present c_now c_emits c_kept c_ignores c_values c_due c_outputs c_fired c_made c_classes c_size c_taken c_stateClass c_finerClass c_usedBits c_offsets c_owners) A o) (cc := cX2_haveSameRows) (maxL := 4) (ret := (some .boolean)) (by decide) rfl (Nat.le_of_ble_eq_true rfl) ?_ sz
  intro p e s m args below meth c A ls Z H locs hx hb hr hlocks hts hown hml hnm hK hP hD hS hA hl hZ
  have hown : s.vm.findClass RX2 = some m.cls := hown
  have hl : lv_has ls 4 [(0, .ref (ad 3)), (1, .int v1), (2, .int v2)] := hl
  have L2 : ∀ n2 : Nat, ∀ (v3 : Int32) (H : Heap) (locs : List Loc) (ls : Array Slot), va_P D vwCl (CW ad ca c_states c_transitions c_timerEvent c_from c_event c_next c_variable c_relation c_number c_actions c_kind c_a c_b c_present c_now c_emits c_kept c_ignores c_values c_due c_outputs c_fired c_made c_classes c_size c_taken c_stateClass c_finerClass c_usedBits c_offsets c_owners) H → va_D A (CW ad ca c_states c_transitions c_timerEvent c_from c_event c_next c_variable c_relation c_number c_actions c_kind c_a c_b c_present c_now c_emits c_kept c_ignores c_values c_due c_outputs c_fired c_made c_classes c_size c_taken c_stateClass c_finerClass c_usedBits c_offsets c_owners) → va_S A s.heap H locs → lv_has ls 4 [(0, .ref (ad 3)), (1, .int v1), (2, .int v2), (3, .int v3)] → X2_haveSameRows_L2 fu c_transitions c_from c_event c_next c_variable c_relation c_number c_actions c_kind c_a c_b c_stateClass v1 v2 n2 v3 = some o → W p l e rmX2_haveSameRows s m args below meth c H locs 0 0 Z (F0 m 2 ls []) := by
    intro n2
    induction n2 with
    | zero =>
      intro v3 H locs ls hP hD hS hl hf
      exact pr_n hf
    | succ n2 ih2 =>
      intro v3 H locs ls hP hD hS hl hf
      replace hf : X2_haveSameRows_B2 fu c_transitions c_from c_event c_next c_variable c_relation c_number c_actions c_kind c_a c_b c_stateClass v1 v2 (X2_haveSameRows_L2 fu c_transitions c_from c_event c_next c_variable c_relation c_number c_actions c_kind c_a c_b c_stateClass v1 v2  n2) v3 = some o := hf
      unfold X2_haveSameRows_B2 at hf
      refine lv_iload_n hx hb dX2_haveSameRows_2 rfl (lv_at hl 3 rfl) ?_
      refine lv_bipush (v := (8 : Int32)) hx hb dX2_haveSameRows_3 (by decide) ?_
      refine lv_icmp_ge (tgt := 26) hx hb dX2_haveSameRows_5 (by decide) (fun hc => ?_) (fun hc => ?_)
      · have hf := pr_t hf hc
        refine lv_iconst (v := (1 : Int32)) hx hb dX2_haveSameRows_26 (by decide) ?_
        obtain rfl := Option.some.inj hf
        subst hZ
        exact pw_rz hx hb hr hlocks (Or.inr rfl) hK hP hD hS (Nat.le_of_ble_eq_true rfl) (Nat.le_of_ble_eq_true rfl) dX2_haveSameRows_27
      · have hf := pr_f hf hc
        refine lv_aload_n hx hb dX2_haveSameRows_8 rfl (lv_at hl 0 rfl) ?_
        refine lv_iload_n hx hb dX2_haveSameRows_9 rfl (lv_at hl 1 rfl) ?_
        refine lv_iload_n hx hb dX2_haveSameRows_10 rfl (lv_at hl 2 rfl) ?_
        refine lv_iload_n hx hb dX2_haveSameRows_11 rfl (lv_at hl 3 rfl) ?_
        obtain ⟨x12, hg12, hf⟩ := pr_b hf
        refine pw_cViW (b := ad 3) (As := [.int v1, .int v2, .int v3]) (rest := []) ⟨hx, hb, hml, hown, hts⟩ (c_X2_haveSameCells fu (D := D) c_states c_transitions c_timerEvent c_from c_event c_next c_variable c_relation c_number c_actions c_kind c_a c_b c_present c_now c_emits c_kept c_ignores c_values c_due c_outputs c_fired c_made c_classes c_size c_taken c_stateClass c_finerClass c_usedBits c_offsets c_owners v1 v2 v3 hg12) (cwV 3 hts gX2_haveSameRows_X2_haveSameCells rfl rfl rfl (by decide +kernel) ⟨Nat.le_of_ble_eq_true rfl, Nat.le_of_ble_eq_true rfl⟩) 3 2 rfl rfl hK hP hD hS hA rfl hl.1 rfl (Nat.le_of_ble_eq_true rfl) dX2_haveSameRows_12 ⟨Nat.le_of_ble_eq_true rfl, Nat.le_of_ble_eq_true rfl⟩ (fun H locs hP hD hS => ?_)
        refine lv_if_ne (tgt := 20) hx hb dX2_haveSameRows_15 (by decide) (fun hc => ?_) (fun hc => ?_)
        · have hf := pr_f hf hc
          refine lv_iinc (v := (v3 + (1 : Int32))) (lv' := [(3, .int (v3 + (1 : Int32))), (0, .ref (ad 3)), (1, .int v1), (2, .int v2)]) hx hb dX2_haveSameRows_20 hl (k := 3) rfl rfl (by decide) rfl (fun ls hl => ?_)
          refine lv_goto (tgt := 2) hx hb dX2_haveSameRows_23 (by decide) ?_
          exact ih2 (v3 + (1 : Int32)) H locs ls hP hD hS (lv_sub hl [1, 2, 3, 0] rfl) hf
        · have hf := pr_t hf hc
          refine lv_iconst (v := (0 : Int32)) hx hb dX2_haveSameRows_18 (by decide) ?_
          obtain rfl := Option.some.inj hf
          subst hZ
          exact pw_rz hx hb hr hlocks (Or.inl rfl) hK hP hD hS (Nat.le_of_ble_eq_true rfl) (Nat.le_of_ble_eq_true rfl) dX2_haveSameRows_19
  unfold X2_haveSameRows at hf
  refine lv_iconst (v := (0 : Int32)) hx hb dX2_haveSameRows_0 (by decide) ?_
  refine lv_istore_n (lv' := [(3, .int (0 : Int32)), (0, .ref (ad 3)), (1, .int v1), (2, .int v2)]) hx hb dX2_haveSameRows_1 rfl hl (by decide) rfl (fun ls hl => ?_)
  exact L2 fu (0 : Int32) H locs ls hP hD hS (lv_sub hl [1, 2, 3, 0] rfl) hf
abbrev rmX2_earlierTwin : Room := { frames := 3, cells := 0, slots := 0, locals := 76 }
set_option maxHeartbeats 4000000 in
set_option maxRecDepth 100000 in
theorem c_X2_earlierTwin {l : Launch} {D : va_G} {ad : Nat → Nat} {ca : Nat → ClassId} (fu : Nat) (c_states c_transitions : Int32) (c_timerEvent c_from c_event c_next c_variable c_relation c_number c_actions c_kind c_a c_b : Nat → Int32) (c_present : Int32) (c_now : Int64) (c_emits c_kept c_ignores : Int32) (c_values : Nat → Int32) (c_due : Nat → Int64) (c_outputs c_fired : Nat → Int32) (c_made c_classes c_size c_taken : Int32) (c_stateClass c_finerClass c_usedBits c_offsets c_owners : Nat → Int32) (v1 : Int32) {o : Int32} (hf : X2_earlierTwin fu c_transitions c_from c_event c_next c_variable c_relation c_number c_actions c_kind c_a c_b c_stateClass v1 = some o) : Ci l yX2_earlierTwin wsX2_earlierTwin rmX2_earlierTwin D (CT ca) (CW ad ca c_states c_transitions c_timerEvent c_from c_event c_next c_variable c_relation c_number c_actions c_kind c_a c_b c_present c_now c_emits c_kept c_ignores c_values c_due c_outputs c_fired c_made c_classes c_size c_taken c_stateClass c_finerClass c_usedBits c_offsets c_owners) [.ref (ad 3), .int v1] o (CW ad ca c_states c_transitions c_timerEvent c_from c_event c_next c_variable c_relation c_number c_actions c_kind c_a c_b c_present c_now c_emits c_kept c_ignores c_values c_due c_outputs c_fired c_made c_classes c_size c_taken c_stateClass c_finerClass c_usedBits c_offsets c_owners) := by
  intro sz
  refine pw_entry (Qc := fun A => pw_Qi D (CT ca) (CW ad ca c_states c_transitions c_timerEvent c_from c_event c_next c_variable c_relation c_number c_actions c_kind c_a c_b c_present c_now c_emits c_kept c_ignores c_values c_due c_outputs c_fired c_made c_classes c_size c_taken c_stateClass c_finerClass c_usedBits c_offsets c_owners) A o) (cc := cX2_earlierTwin) (maxL := 3) (ret := (some .int)) (by decide) rfl (Nat.le_of_ble_eq_true rfl) ?_ sz
  intro p e s m args below meth c A ls Z H locs hx hb hr hlocks hts hown hml hnm hK hP hD hS hA hl hZ
  have hown : s.vm.findClass RX2 = some m.cls := hown
  have hiX2 : ∀ w ∈ u_ws RX2 TX2 10, w ∈ wsX2_earlierTwin := by decide +kernel
  have f25 := hts (.fieldLink RX2 25 "ProtocolMachine$Table" "stateClass" "[I") (by decide +kernel)
  have hl : lv_has ls 3 [(0, .ref (ad 3)), (1, .int v1)] := hl
  have L2 : ∀ n2 : Nat, ∀ (v2 : Int32) (H : Heap) (locs : List Loc) (ls : Array Slot), va_P D vwCl (CW ad ca c_states c_transitions c_timerEvent c_from c_event c_next c_variable c_relation c_number c_actions c_kind c_a c_b c_present c_now c_emits c_kept c_ignores c_values c_due c_outputs c_fired c_made c_classes c_size c_taken c_stateClass c_finerClass c_usedBits c_offsets c_owners) H → va_D A (CW ad ca c_states c_transitions c_timerEvent c_from c_event c_next c_variable c_relation c_number c_actions c_kind c_a c_b c_present c_now c_emits c_kept c_ignores c_values c_due c_outputs c_fired c_made c_classes c_size c_taken c_stateClass c_finerClass c_usedBits c_offsets c_owners) → va_S A s.heap H locs → lv_has ls 3 [(0, .ref (ad 3)), (1, .int v1), (2, .int v2)] → X2_earlierTwin_L2 fu c_transitions c_from c_event c_next c_variable c_relation c_number c_actions c_kind c_a c_b c_stateClass v1 n2 v2 = some o → W p l e rmX2_earlierTwin s m args below meth c H locs 0 0 Z (F0 m 2 ls []) := by
    intro n2
    induction n2 with
    | zero =>
      intro v2 H locs ls hP hD hS hl hf
      exact pr_n hf
    | succ n2 ih2 =>
      intro v2 H locs ls hP hD hS hl hf
      replace hf : X2_earlierTwin_B2 fu c_transitions c_from c_event c_next c_variable c_relation c_number c_actions c_kind c_a c_b c_stateClass v1 (X2_earlierTwin_L2 fu c_transitions c_from c_event c_next c_variable c_relation c_number c_actions c_kind c_a c_b c_stateClass v1  n2) v2 = some o := hf
      unfold X2_earlierTwin_B2 at hf
      refine lv_iload_n hx hb dX2_earlierTwin_2 rfl (lv_at hl 2 rfl) ?_
      refine lv_iload_n hx hb dX2_earlierTwin_3 rfl (lv_at hl 1 rfl) ?_
      refine lv_icmp_ge (tgt := 39) hx hb dX2_earlierTwin_4 (by decide) (fun hc => ?_) (fun hc => ?_)
      · have hf := pr_t hf hc
        refine lv_iconst (v := (-1 : Int32)) hx hb dX2_earlierTwin_39 (by decide) ?_
        obtain rfl := Option.some.inj hf
        subst hZ
        exact pw_ri hx hb hr hlocks hK hP hD hS (Nat.le_of_ble_eq_true rfl) (Nat.le_of_ble_eq_true rfl) dX2_earlierTwin_40
      · have hf := pr_f hf hc
        refine lv_aload_n hx hb dX2_earlierTwin_7 rfl (lv_at hl 0 rfl) ?_
        refine va_get (D := D) (ci := 2) (v := .ref (ad 19)) (C := RX2) (T := TX2) (N := 10) hx hb hts hiX2 hown hK hP 3 rfl rfl 5 (by decide) f25 (fun _ h9 => h9) rfl dX2_earlierTwin_8 ?_
        refine lv_iload_n hx hb dX2_earlierTwin_11 rfl (lv_at hl 2 rfl) ?_
        obtain ⟨hi12, hf⟩ := pr_in hf
        refine va_iald hx hb hK hP 19 15 rfl rfl hi12 dX2_earlierTwin_12 ?_
        refine lv_aload_n hx hb dX2_earlierTwin_13 rfl (lv_at hl 0 rfl) ?_
        refine va_get (D := D) (ci := 2) (v := .ref (ad 19)) (C := RX2) (T := TX2) (N := 10) hx hb hts hiX2 hown hK hP 3 rfl rfl 5 (by decide) f25 (fun _ h9 => h9) rfl dX2_earlierTwin_14 ?_
        refine lv_iload_n hx hb dX2_earlierTwin_17 rfl (lv_at hl 1 rfl) ?_
        obtain ⟨hi18, hf⟩ := pr_in hf
        refine va_iald hx hb hK hP 19 15 rfl rfl hi18 dX2_earlierTwin_18 ?_
        refine lv_icmp_ne (tgt := 33) hx hb dX2_earlierTwin_19 (by decide) (fun hc => ?_) (fun hc => ?_)
        · have hf := pr_f hf hc
          refine lv_iinc (v := (v2 + (1 : Int32))) (lv' := [(2, .int (v2 + (1 : Int32))), (0, .ref (ad 3)), (1, .int v1)]) hx hb dX2_earlierTwin_33 hl (k := 2) rfl rfl (by decide) rfl (fun ls hl => ?_)
          refine lv_goto (tgt := 2) hx hb dX2_earlierTwin_36 (by decide) ?_
          exact ih2 (v2 + (1 : Int32)) H locs ls hP hD hS (lv_sub hl [1, 2, 0] rfl) hf
        · have hf := pr_t hf hc
          refine lv_aload_n hx hb dX2_earlierTwin_22 rfl (lv_at hl 0 rfl) ?_
          refine lv_iload_n hx hb dX2_earlierTwin_23 rfl (lv_at hl 2 rfl) ?_
          refine lv_iload_n hx hb dX2_earlierTwin_24 rfl (lv_at hl 1 rfl) ?_
          obtain ⟨x25, hg25, hf⟩ := pr_b hf
          refine pw_cViW (b := ad 3) (As := [.int v2, .int v1]) (rest := []) ⟨hx, hb, hml, hown, hts⟩ (c_X2_haveSameRows fu (D := D) c_states c_transitions c_timerEvent c_from c_event c_next c_variable c_relation c_number c_actions c_kind c_a c_b c_present c_now c_emits c_kept c_ignores c_values c_due c_outputs c_fired c_made c_classes c_size c_taken c_stateClass c_finerClass c_usedBits c_offsets c_owners v2 v1 hg25) (cwV 2 hts gX2_earlierTwin_X2_haveSameRows rfl rfl rfl (by decide +kernel) ⟨Nat.le_of_ble_eq_true rfl, Nat.le_of_ble_eq_true rfl⟩) 3 2 rfl rfl hK hP hD hS hA rfl hl.1 rfl (Nat.le_of_ble_eq_true rfl) dX2_earlierTwin_25 ⟨Nat.le_of_ble_eq_true rfl, Nat.le_of_ble_eq_true rfl⟩ (fun H locs hP hD hS => ?_)
          refine lv_if_eq (tgt := 33) hx hb dX2_earlierTwin_28 (by decide) (fun hc => ?_) (fun hc => ?_)
          · have hf := pr_t hf hc
            refine lv_iinc (v := (v2 + (1 : Int32))) (lv' := [(2, .int (v2 + (1 : Int32))), (0, .ref (ad 3)), (1, .int v1)]) hx hb dX2_earlierTwin_33 hl (k := 2) rfl rfl (by decide) rfl (fun ls hl => ?_)
            refine lv_goto (tgt := 2) hx hb dX2_earlierTwin_36 (by decide) ?_
            exact ih2 (v2 + (1 : Int32)) H locs ls hP hD hS (lv_sub hl [1, 2, 0] rfl) hf
          · have hf := pr_f hf hc
            refine lv_iload_n hx hb dX2_earlierTwin_31 rfl (lv_at hl 2 rfl) ?_
            obtain rfl := Option.some.inj hf
            subst hZ
            exact pw_ri hx hb hr hlocks hK hP hD hS (Nat.le_of_ble_eq_true rfl) (Nat.le_of_ble_eq_true rfl) dX2_earlierTwin_32
  unfold X2_earlierTwin at hf
  refine lv_iconst (v := (0 : Int32)) hx hb dX2_earlierTwin_0 (by decide) ?_
  refine lv_istore_n (lv' := [(2, .int (0 : Int32)), (0, .ref (ad 3)), (1, .int v1)]) hx hb dX2_earlierTwin_1 rfl hl (by decide) rfl (fun ls hl => ?_)
  exact L2 fu (0 : Int32) H locs ls hP hD hS (lv_sub hl [1, 2, 0] rfl) hf
abbrev rmX2_splitOnce : Room := { frames := 4, cells := 0, slots := 0, locals := 98 }
set_option maxHeartbeats 4000000 in
set_option maxRecDepth 100000 in
theorem c_X2_splitOnce {l : Launch} {D : va_G} {ad : Nat → Nat} {ca : Nat → ClassId} (fu : Nat) (c_states c_transitions : Int32) (c_timerEvent c_from c_event c_next c_variable c_relation c_number c_actions c_kind c_a c_b : Nat → Int32) (c_present : Int32) (c_now : Int64) (c_emits c_kept c_ignores : Int32) (c_values : Nat → Int32) (c_due : Nat → Int64) (c_outputs c_fired : Nat → Int32) (c_made c_classes c_size c_taken : Int32) (c_stateClass c_finerClass c_usedBits c_offsets c_owners : Nat → Int32) {o : Int32 × (Nat → Int32) × (Nat → Int32)} (hf : X2_splitOnce fu c_states c_transitions c_from c_event c_next c_variable c_relation c_number c_actions c_kind c_a c_b c_stateClass c_finerClass = some o) : Ci l yX2_splitOnce wsX2_splitOnce rmX2_splitOnce D (CT ca) (CW ad ca c_states c_transitions c_timerEvent c_from c_event c_next c_variable c_relation c_number c_actions c_kind c_a c_b c_present c_now c_emits c_kept c_ignores c_values c_due c_outputs c_fired c_made c_classes c_size c_taken c_stateClass c_finerClass c_usedBits c_offsets c_owners) [.ref (ad 3)] o.1 (CW ad ca c_states c_transitions c_timerEvent c_from c_event c_next c_variable c_relation c_number c_actions c_kind c_a c_b c_present c_now c_emits c_kept c_ignores c_values c_due c_outputs c_fired c_made c_classes c_size c_taken o.2.1 o.2.2 c_usedBits c_offsets c_owners) := by
  intro sz
  refine pw_entry (Qc := fun A => pw_Qi D (CT ca) (CW ad ca c_states c_transitions c_timerEvent c_from c_event c_next c_variable c_relation c_number c_actions c_kind c_a c_b c_present c_now c_emits c_kept c_ignores c_values c_due c_outputs c_fired c_made c_classes c_size c_taken o.2.1 o.2.2 c_usedBits c_offsets c_owners) A o.1) (cc := cX2_splitOnce) (maxL := 4) (ret := (some .int)) (by decide) rfl (Nat.le_of_ble_eq_true rfl) ?_ sz
  intro p e s m args below meth c A ls Z H locs hx hb hr hlocks hts hown hml hnm hK hP hD hS hA hl hZ
  have hown : s.vm.findClass RX2 = some m.cls := hown
  have hiX1 : ∀ w ∈ u_ws RX1 TX1 13, w ∈ wsX2_splitOnce := by decide +kernel
  have hiX2 : ∀ w ∈ u_ws RX2 TX2 10, w ∈ wsX2_splitOnce := by decide +kernel
  have an_i := hts (.initialized "java/lang/System") (by decide +kernel)
  have an_n := hts (.native arraycopyName) (by decide +kernel)
  have an_s := hts (.static arraycopyName) (by decide +kernel)
  have f25 := hts (.fieldLink RX2 25 "ProtocolMachine$Table" "stateClass" "[I") (by decide +kernel)
  have f29 := hts (.fieldLink RX2 29 "ProtocolMachine$Table" "finerClass" "[I") (by decide +kernel)
  have f41 := hts (.fieldLink RX2 41 "ProtocolMachine$Table" "protocol" "LProtocolMachine$Protocol;") (by decide +kernel)
  have f64 := hts (.fieldLink RX2 64 "ProtocolMachine$Protocol" "states" "I") (by decide +kernel)
  have ml82 := hts (.methodLink RX2 82 arraycopyName) (by decide +kernel)
  have hl : lv_has ls 4 [(0, .ref (ad 3))] := hl
  have B78 : ∀ (c_finerClass : Nat → Int32) (v1 : Int32) (H : Heap) (locs : List Loc) (ls : Array Slot), va_P D vwCl (CW ad ca c_states c_transitions c_timerEvent c_from c_event c_next c_variable c_relation c_number c_actions c_kind c_a c_b c_present c_now c_emits c_kept c_ignores c_values c_due c_outputs c_fired c_made c_classes c_size c_taken c_stateClass c_finerClass c_usedBits c_offsets c_owners) H → va_D A (CW ad ca c_states c_transitions c_timerEvent c_from c_event c_next c_variable c_relation c_number c_actions c_kind c_a c_b c_present c_now c_emits c_kept c_ignores c_values c_due c_outputs c_fired c_made c_classes c_size c_taken c_stateClass c_finerClass c_usedBits c_offsets c_owners) → va_S A s.heap H locs → lv_has ls 4 [(0, .ref (ad 3)), (1, .int v1)] → X2_splitOnce_B78 c_states c_stateClass c_finerClass v1 = some o → W p l e rmX2_splitOnce s m args below meth c H locs 0 0 Z (F0 m 78 ls []) := by
    intro c_finerClass v1 H locs ls hP hD hS hl hf
    unfold X2_splitOnce_B78 at hf
    refine lv_aload_n hx hb dX2_splitOnce_78 rfl (lv_at hl 0 rfl) ?_
    refine va_get (D := D) (ci := 2) (v := .ref (ad 20)) (C := RX2) (T := TX2) (N := 10) hx hb hts hiX2 hown hK hP 3 rfl rfl 6 (by decide) f29 (fun _ h9 => h9) rfl dX2_splitOnce_79 ?_
    refine lv_iconst (v := (0 : Int32)) hx hb dX2_splitOnce_82 (by decide) ?_
    refine lv_aload_n hx hb dX2_splitOnce_83 rfl (lv_at hl 0 rfl) ?_
    refine va_get (D := D) (ci := 2) (v := .ref (ad 19)) (C := RX2) (T := TX2) (N := 10) hx hb hts hiX2 hown hK hP 3 rfl rfl 5 (by decide) f25 (fun _ h9 => h9) rfl dX2_splitOnce_84 ?_
    refine lv_iconst (v := (0 : Int32)) hx hb dX2_splitOnce_87 (by decide) ?_
    refine lv_aload_n hx hb dX2_splitOnce_88 rfl (lv_at hl 0 rfl) ?_
    refine va_get (D := D) (ci := 2) (v := .ref (ad 1)) (C := RX2) (T := TX2) (N := 10) hx hb hts hiX2 hown hK hP 3 rfl rfl 0 (by decide) f41 (fun _ h9 => h9) rfl dX2_splitOnce_89 ?_
    refine va_get (D := D) (ci := 1) (v := .int c_states) (C := RX1) (T := TX1) (N := 13) hx hb hts hiX1 hown hK hP 1 rfl rfl 0 (by decide) f64 (fun _ h9 => h9) rfl dX2_splitOnce_92 ?_
    obtain ⟨hp1, hp2, hf⟩ := pr_cp hf
    refine va_copyi (ty := .int) hx hb (hml.trans hl.1.symm) hown ml82 an_n an_s an_i hK hP hD hS 20 19 16 15 rfl rfl rfl rfl rfl (by decide) (by decide) hp1 (by show 0 + _ ≤ _; rw [Nat.zero_add]; exact hp2) (by show 0 + _ ≤ _; rw [Nat.zero_add]; exact hp2) (fun _ _ => rfl) (Nat.le_of_ble_eq_true rfl) (Nat.le_of_ble_eq_true rfl) dX2_splitOnce_95 (fun H locs hP hD hS => ?_)
    have hP : va_P D vwCl (CW ad ca c_states c_transitions c_timerEvent c_from c_event c_next c_variable c_relation c_number c_actions c_kind c_a c_b c_present c_now c_emits c_kept c_ignores c_values c_due c_outputs c_fired c_made c_classes c_size c_taken (va_cpy c_finerClass c_stateClass (0 : Int32).toNatClampNeg (0 : Int32).toNatClampNeg c_states.toNatClampNeg) c_finerClass c_usedBits c_offsets c_owners) H := hP
    have hD : va_D A (CW ad ca c_states c_transitions c_timerEvent c_from c_event c_next c_variable c_relation c_number c_actions c_kind c_a c_b c_present c_now c_emits c_kept c_ignores c_values c_due c_outputs c_fired c_made c_classes c_size c_taken (va_cpy c_finerClass c_stateClass (0 : Int32).toNatClampNeg (0 : Int32).toNatClampNeg c_states.toNatClampNeg) c_finerClass c_usedBits c_offsets c_owners) := hD
    refine lv_iload_n hx hb dX2_splitOnce_98 rfl (lv_at hl 1 rfl) ?_
    obtain rfl := Option.some.inj hf
    subst hZ
    exact pw_ri hx hb hr hlocks hK hP hD hS (Nat.le_of_ble_eq_true rfl) (Nat.le_of_ble_eq_true rfl) dX2_splitOnce_99
  have L4 : ∀ n4 : Nat, ∀ (c_finerClass : Nat → Int32) (v1 v2 : Int32) (H : Heap) (locs : List Loc) (ls : Array Slot), va_P D vwCl (CW ad ca c_states c_transitions c_timerEvent c_from c_event c_next c_variable c_relation c_number c_actions c_kind c_a c_b c_present c_now c_emits c_kept c_ignores c_values c_due c_outputs c_fired c_made c_classes c_size c_taken c_stateClass c_finerClass c_usedBits c_offsets c_owners) H → va_D A (CW ad ca c_states c_transitions c_timerEvent c_from c_event c_next c_variable c_relation c_number c_actions c_kind c_a c_b c_present c_now c_emits c_kept c_ignores c_values c_due c_outputs c_fired c_made c_classes c_size c_taken c_stateClass c_finerClass c_usedBits c_offsets c_owners) → va_S A s.heap H locs → lv_has ls 4 [(0, .ref (ad 3)), (1, .int v1), (2, .int v2)] → X2_splitOnce_L4 fu c_states c_transitions c_from c_event c_next c_variable c_relation c_number c_actions c_kind c_a c_b c_stateClass n4 c_finerClass v1 v2 = some o → W p l e rmX2_splitOnce s m args below meth c H locs 0 0 Z (F0 m 4 ls []) := by
    intro n4
    induction n4 with
    | zero =>
      intro c_finerClass v1 v2 H locs ls hP hD hS hl hf
      exact pr_n hf
    | succ n4 ih4 =>
      have B58 : ∀ (c_finerClass : Nat → Int32) (v1 v2 v3 s1 s2 : Int32) (H : Heap) (locs : List Loc) (ls : Array Slot), va_P D vwCl (CW ad ca c_states c_transitions c_timerEvent c_from c_event c_next c_variable c_relation c_number c_actions c_kind c_a c_b c_present c_now c_emits c_kept c_ignores c_values c_due c_outputs c_fired c_made c_classes c_size c_taken c_stateClass c_finerClass c_usedBits c_offsets c_owners) H → va_D A (CW ad ca c_states c_transitions c_timerEvent c_from c_event c_next c_variable c_relation c_number c_actions c_kind c_a c_b c_present c_now c_emits c_kept c_ignores c_values c_due c_outputs c_fired c_made c_classes c_size c_taken c_stateClass c_finerClass c_usedBits c_offsets c_owners) → va_S A s.heap H locs → lv_has ls 4 [(0, .ref (ad 3)), (1, .int v1), (2, .int v2), (3, .int v3)] → X2_splitOnce_B58 (X2_splitOnce_L4 fu c_states c_transitions c_from c_event c_next c_variable c_relation c_number c_actions c_kind c_a c_b c_stateClass n4) c_finerClass v1 v2 v3 s1 s2 = some o → W p l e rmX2_splitOnce s m args below meth c H locs 0 0 Z (F0 m 58 ls [.int s2, .int s1, .ref (ad 20)]) := by
        intro c_finerClass v1 v2 v3 s1 s2 H locs ls hP hD hS hl hf
        unfold X2_splitOnce_B58 at hf
        obtain ⟨hi58, hf⟩ := pr_in hf
        refine va_iast hx hb hK hP hD hS 20 16 rfl rfl hi58 dX2_splitOnce_58 (fun H locs hP hD hS => ?_)
        have hP : va_P D vwCl (CW ad ca c_states c_transitions c_timerEvent c_from c_event c_next c_variable c_relation c_number c_actions c_kind c_a c_b c_present c_now c_emits c_kept c_ignores c_values c_due c_outputs c_fired c_made c_classes c_size c_taken c_stateClass (upd c_finerClass s1.toNatClampNeg s2) c_usedBits c_offsets c_owners) H := hP
        have hD : va_D A (CW ad ca c_states c_transitions c_timerEvent c_from c_event c_next c_variable c_relation c_number c_actions c_kind c_a c_b c_present c_now c_emits c_kept c_ignores c_values c_due c_outputs c_fired c_made c_classes c_size c_taken c_stateClass (upd c_finerClass s1.toNatClampNeg s2) c_usedBits c_offsets c_owners) := hD
        refine lv_iload_n hx hb dX2_splitOnce_59 rfl (lv_at hl 1 rfl) ?_
        refine lv_iload_n hx hb dX2_splitOnce_60 rfl (lv_at hl 3 rfl) ?_
        refine lv_iconst (v := (-1 : Int32)) hx hb dX2_splitOnce_61 (by decide) ?_
        refine lv_icmp_ne (tgt := 69) hx hb dX2_splitOnce_62 (by decide) (fun hc => ?_) (fun hc => ?_)
        · have hf := pr_f hf hc
          refine lv_iconst (v := (0 : Int32)) hx hb dX2_splitOnce_69 (by decide) ?_
          refine lv_iadd hx hb dX2_splitOnce_70 ?_
          refine lv_istore_n (lv' := [(1, .int (v1 + (0 : Int32))), (0, .ref (ad 3)), (2, .int v2), (3, .int v3)]) hx hb dX2_splitOnce_71 rfl hl (by decide) rfl (fun ls hl => ?_)
          refine lv_iinc (v := (v2 + (1 : Int32))) (lv' := [(2, .int (v2 + (1 : Int32))), (1, .int (v1 + (0 : Int32))), (0, .ref (ad 3)), (3, .int v3)]) hx hb dX2_splitOnce_72 hl (k := 2) rfl rfl (by decide) rfl (fun ls hl => ?_)
          refine lv_goto (tgt := 4) hx hb dX2_splitOnce_75 (by decide) ?_
          exact ih4 (upd c_finerClass s1.toNatClampNeg s2) (v1 + (0 : Int32)) (v2 + (1 : Int32)) H locs ls hP hD hS (lv_sub hl [2, 1, 0] rfl) hf
        · have hf := pr_t hf hc
          refine lv_iconst (v := (1 : Int32)) hx hb dX2_splitOnce_65 (by decide) ?_
          refine lv_goto (tgt := 70) hx hb dX2_splitOnce_66 (by decide) ?_
          refine lv_iadd hx hb dX2_splitOnce_70 ?_
          refine lv_istore_n (lv' := [(1, .int (v1 + (1 : Int32))), (0, .ref (ad 3)), (2, .int v2), (3, .int v3)]) hx hb dX2_splitOnce_71 rfl hl (by decide) rfl (fun ls hl => ?_)
          refine lv_iinc (v := (v2 + (1 : Int32))) (lv' := [(2, .int (v2 + (1 : Int32))), (1, .int (v1 + (1 : Int32))), (0, .ref (ad 3)), (3, .int v3)]) hx hb dX2_splitOnce_72 hl (k := 2) rfl rfl (by decide) rfl (fun ls hl => ?_)
          refine lv_goto (tgt := 4) hx hb dX2_splitOnce_75 (by decide) ?_
          exact ih4 (upd c_finerClass s1.toNatClampNeg s2) (v1 + (1 : Int32)) (v2 + (1 : Int32)) H locs ls hP hD hS (lv_sub hl [2, 1, 0] rfl) hf
      intro c_finerClass v1 v2 H locs ls hP hD hS hl hf
      replace hf : X2_splitOnce_B4 fu c_states c_transitions c_from c_event c_next c_variable c_relation c_number c_actions c_kind c_a c_b c_stateClass (X2_splitOnce_L4 fu c_states c_transitions c_from c_event c_next c_variable c_relation c_number c_actions c_kind c_a c_b c_stateClass  n4) c_finerClass v1 v2 = some o := hf
      unfold X2_splitOnce_B4 at hf
      refine lv_iload_n hx hb dX2_splitOnce_4 rfl (lv_at hl 2 rfl) ?_
      refine lv_aload_n hx hb dX2_splitOnce_5 rfl (lv_at hl 0 rfl) ?_
      refine va_get (D := D) (ci := 2) (v := .ref (ad 1)) (C := RX2) (T := TX2) (N := 10) hx hb hts hiX2 hown hK hP 3 rfl rfl 0 (by decide) f41 (fun _ h9 => h9) rfl dX2_splitOnce_6 ?_
      refine va_get (D := D) (ci := 1) (v := .int c_states) (C := RX1) (T := TX1) (N := 13) hx hb hts hiX1 hown hK hP 1 rfl rfl 0 (by decide) f64 (fun _ h9 => h9) rfl dX2_splitOnce_9 ?_
      refine lv_icmp_ge (tgt := 78) hx hb dX2_splitOnce_12 (by decide) (fun hc => ?_) (fun hc => ?_)
      · have hf := pr_t hf hc
        exact B78 c_finerClass v1 H locs ls hP hD hS (lv_sub hl [0, 1] rfl) hf
      · have hf := pr_f hf hc
        refine lv_aload_n hx hb dX2_splitOnce_15 rfl (lv_at hl 0 rfl) ?_
        refine va_get (D := D) (ci := 2) (v := .ref (ad 20)) (C := RX2) (T := TX2) (N := 10) hx hb hts hiX2 hown hK hP 3 rfl rfl 6 (by decide) f29 (fun _ h9 => h9) rfl dX2_splitOnce_16 ?_
        refine lv_iload_n hx hb dX2_splitOnce_19 rfl (lv_at hl 2 rfl) ?_
        refine lv_iconst (v := (-1 : Int32)) hx hb dX2_splitOnce_20 (by decide) ?_
        obtain ⟨hi21, hf⟩ := pr_in hf
        refine va_iast hx hb hK hP hD hS 20 16 rfl rfl hi21 dX2_splitOnce_21 (fun H locs hP hD hS => ?_)
        have hP : va_P D vwCl (CW ad ca c_states c_transitions c_timerEvent c_from c_event c_next c_variable c_relation c_number c_actions c_kind c_a c_b c_present c_now c_emits c_kept c_ignores c_values c_due c_outputs c_fired c_made c_classes c_size c_taken c_stateClass (upd c_finerClass v2.toNatClampNeg (-1 : Int32)) c_usedBits c_offsets c_owners) H := hP
        have hD : va_D A (CW ad ca c_states c_transitions c_timerEvent c_from c_event c_next c_variable c_relation c_number c_actions c_kind c_a c_b c_present c_now c_emits c_kept c_ignores c_values c_due c_outputs c_fired c_made c_classes c_size c_taken c_stateClass (upd c_finerClass v2.toNatClampNeg (-1 : Int32)) c_usedBits c_offsets c_owners) := hD
        refine lv_aload_n hx hb dX2_splitOnce_22 rfl (lv_at hl 0 rfl) ?_
        refine va_get (D := D) (ci := 2) (v := .ref (ad 19)) (C := RX2) (T := TX2) (N := 10) hx hb hts hiX2 hown hK hP 3 rfl rfl 5 (by decide) f25 (fun _ h9 => h9) rfl dX2_splitOnce_23 ?_
        refine lv_iload_n hx hb dX2_splitOnce_26 rfl (lv_at hl 2 rfl) ?_
        refine va_iald hx hb hK hP 19 15 rfl rfl hi21 dX2_splitOnce_27 ?_
        refine lv_iconst (v := (-1 : Int32)) hx hb dX2_splitOnce_28 (by decide) ?_
        refine lv_icmp_eq (tgt := 72) hx hb dX2_splitOnce_29 (by decide) (fun hc => ?_) (fun hc => ?_)
        · have hf := pr_t hf hc
          refine lv_iinc (v := (v2 + (1 : Int32))) (lv' := [(2, .int (v2 + (1 : Int32))), (0, .ref (ad 3)), (1, .int v1)]) hx hb dX2_splitOnce_72 hl (k := 2) rfl rfl (by decide) rfl (fun ls hl => ?_)
          refine lv_goto (tgt := 4) hx hb dX2_splitOnce_75 (by decide) ?_
          exact ih4 (upd c_finerClass v2.toNatClampNeg (-1 : Int32)) v1 (v2 + (1 : Int32)) H locs ls hP hD hS (lv_sub hl [1, 2, 0] rfl) hf
        · have hf := pr_f hf hc
          refine lv_aload_n hx hb dX2_splitOnce_32 rfl (lv_at hl 0 rfl) ?_
          refine lv_iload_n hx hb dX2_splitOnce_33 rfl (lv_at hl 2 rfl) ?_
          obtain ⟨x34, hg34, hf⟩ := pr_b hf
          refine pw_cViW (b := ad 3) (As := [.int v2]) (rest := []) ⟨hx, hb, hml, hown, hts⟩ (c_X2_earlierTwin fu (D := D) c_states c_transitions c_timerEvent c_from c_event c_next c_variable c_relation c_number c_actions c_kind c_a c_b c_present c_now c_emits c_kept c_ignores c_values c_due c_outputs c_fired c_made c_classes c_size c_taken c_stateClass (upd c_finerClass v2.toNatClampNeg (-1 : Int32)) c_usedBits c_offsets c_owners v2 hg34) (cwV 1 hts gX2_splitOnce_X2_earlierTwin rfl rfl rfl (by decide +kernel) ⟨Nat.le_of_ble_eq_true rfl, Nat.le_of_ble_eq_true rfl⟩) 3 2 rfl rfl hK hP hD hS hA rfl hl.1 rfl (Nat.le_of_ble_eq_true rfl) dX2_splitOnce_34 ⟨Nat.le_of_ble_eq_true rfl, Nat.le_of_ble_eq_true rfl⟩ (fun H locs hP hD hS => ?_)
          refine lv_istore_n (lv' := [(3, .int x34), (0, .ref (ad 3)), (1, .int v1), (2, .int v2)]) hx hb dX2_splitOnce_37 rfl hl (by decide) rfl (fun ls hl => ?_)
          refine lv_aload_n hx hb dX2_splitOnce_38 rfl (lv_at hl 1 rfl) ?_
          refine va_get (D := D) (ci := 2) (v := .ref (ad 20)) (C := RX2) (T := TX2) (N := 10) hx hb hts hiX2 hown hK hP 3 rfl rfl 6 (by decide) f29 (fun _ h9 => h9) rfl dX2_splitOnce_39 ?_
          refine lv_iload_n hx hb dX2_splitOnce_42 rfl (lv_at hl 3 rfl) ?_
          refine lv_iload_n hx hb dX2_splitOnce_43 rfl (lv_at hl 0 rfl) ?_
          refine lv_iconst (v := (-1 : Int32)) hx hb dX2_splitOnce_44 (by decide) ?_
          refine lv_icmp_ne (tgt := 52) hx hb dX2_splitOnce_45 (by decide) (fun hc => ?_) (fun hc => ?_)
          · have hf := pr_f hf hc
            refine lv_aload_n hx hb dX2_splitOnce_52 rfl (lv_at hl 1 rfl) ?_
            refine va_get (D := D) (ci := 2) (v := .ref (ad 20)) (C := RX2) (T := TX2) (N := 10) hx hb hts hiX2 hown hK hP 3 rfl rfl 6 (by decide) f29 (fun _ h9 => h9) rfl dX2_splitOnce_53 ?_
            refine lv_iload_n hx hb dX2_splitOnce_56 rfl (lv_at hl 0 rfl) ?_
            obtain ⟨hi57, hf⟩ := pr_in hf
            refine va_iald hx hb hK hP 20 16 rfl rfl hi57 dX2_splitOnce_57 ?_
            exact B58 (upd c_finerClass v2.toNatClampNeg (-1 : Int32)) v1 v2 x34 v2 ((upd c_finerClass v2.toNatClampNeg (-1 : Int32)) x34.toNatClampNeg) H locs ls hP hD hS (lv_sub hl [1, 2, 3, 0] rfl) hf
          · have hf := pr_t hf hc
            refine lv_iload_n hx hb dX2_splitOnce_48 rfl (lv_at hl 2 rfl) ?_
            refine lv_goto (tgt := 58) hx hb dX2_splitOnce_49 (by decide) ?_
            exact B58 (upd c_finerClass v2.toNatClampNeg (-1 : Int32)) v1 v2 x34 v2 v1 H locs ls hP hD hS (lv_sub hl [1, 2, 3, 0] rfl) hf
  unfold X2_splitOnce at hf
  refine lv_iconst (v := (0 : Int32)) hx hb dX2_splitOnce_0 (by decide) ?_
  refine lv_istore_n (lv' := [(1, .int (0 : Int32)), (0, .ref (ad 3))]) hx hb dX2_splitOnce_1 rfl hl (by decide) rfl (fun ls hl => ?_)
  refine lv_iconst (v := (0 : Int32)) hx hb dX2_splitOnce_2 (by decide) ?_
  refine lv_istore_n (lv' := [(2, .int (0 : Int32)), (1, .int (0 : Int32)), (0, .ref (ad 3))]) hx hb dX2_splitOnce_3 rfl hl (by decide) rfl (fun ls hl => ?_)
  exact L4 fu c_finerClass (0 : Int32) (0 : Int32) H locs ls hP hD hS (lv_sub hl [2, 1, 0] rfl) hf
abbrev rmX2_findUsedCells : Room := { frames := 1, cells := 0, slots := 0, locals := 23 }
set_option maxHeartbeats 4000000 in
set_option maxRecDepth 100000 in
theorem c_X2_findUsedCells {l : Launch} {D : va_G} {ad : Nat → Nat} {ca : Nat → ClassId} (fu : Nat) (c_states c_transitions : Int32) (c_timerEvent c_from c_event c_next c_variable c_relation c_number c_actions c_kind c_a c_b : Nat → Int32) (c_present : Int32) (c_now : Int64) (c_emits c_kept c_ignores : Int32) (c_values : Nat → Int32) (c_due : Nat → Int64) (c_outputs c_fired : Nat → Int32) (c_made c_classes c_size c_taken : Int32) (c_stateClass c_finerClass c_usedBits c_offsets c_owners : Nat → Int32) {o : Nat → Int32} (hf : X2_findUsedCells fu c_transitions c_from c_event c_stateClass c_usedBits = some o) : Cv l yX2_findUsedCells wsX2_findUsedCells rmX2_findUsedCells D (CT ca) (CW ad ca c_states c_transitions c_timerEvent c_from c_event c_next c_variable c_relation c_number c_actions c_kind c_a c_b c_present c_now c_emits c_kept c_ignores c_values c_due c_outputs c_fired c_made c_classes c_size c_taken c_stateClass c_finerClass c_usedBits c_offsets c_owners) [.ref (ad 3)] (CW ad ca c_states c_transitions c_timerEvent c_from c_event c_next c_variable c_relation c_number c_actions c_kind c_a c_b c_present c_now c_emits c_kept c_ignores c_values c_due c_outputs c_fired c_made c_classes c_size c_taken c_stateClass c_finerClass o c_offsets c_owners) := by
  intro sz
  refine pw_entry (Qc := fun A => pw_Qv D (CT ca) (CW ad ca c_states c_transitions c_timerEvent c_from c_event c_next c_variable c_relation c_number c_actions c_kind c_a c_b c_present c_now c_emits c_kept c_ignores c_values c_due c_outputs c_fired c_made c_classes c_size c_taken c_stateClass c_finerClass o c_offsets c_owners) A) (cc := cX2_findUsedCells) (maxL := 3) (ret := none) (by decide) rfl (Nat.le_of_ble_eq_true rfl) ?_ sz
  intro p e s m args below meth c A ls Z H locs hx hb hr hlocks hts hown hml hnm hK hP hD hS hA hl hZ
  have hown : s.vm.findClass RX2 = some m.cls := hown
  have hiX1 : ∀ w ∈ u_ws RX1 TX1 13, w ∈ wsX2_findUsedCells := by decide +kernel
  have hiX2 : ∀ w ∈ u_ws RX2 TX2 10, w ∈ wsX2_findUsedCells := by decide +kernel
  have f103 := hts (.fieldLink RX2 103 "ProtocolMachine$Protocol" "event" "[I") (by decide +kernel)
  have f25 := hts (.fieldLink RX2 25 "ProtocolMachine$Table" "stateClass" "[I") (by decide +kernel)
  have f32 := hts (.fieldLink RX2 32 "ProtocolMachine$Table" "usedBits" "[I") (by decide +kernel)
  have f41 := hts (.fieldLink RX2 41 "ProtocolMachine$Table" "protocol" "LProtocolMachine$Protocol;") (by decide +kernel)
  have f69 := hts (.fieldLink RX2 69 "ProtocolMachine$Protocol" "transitions" "I") (by decide +kernel)
  have f72 := hts (.fieldLink RX2 72 "ProtocolMachine$Protocol" "from" "[I") (by decide +kernel)
  have hl : lv_has ls 3 [(0, .ref (ad 3))] := hl
  have L10 : ∀ n10 : Nat, ∀ (c_usedBits : Nat → Int32) (v1 : Int32) (H : Heap) (locs : List Loc) (ls : Array Slot), va_P D vwCl (CW ad ca c_states c_transitions c_timerEvent c_from c_event c_next c_variable c_relation c_number c_actions c_kind c_a c_b c_present c_now c_emits c_kept c_ignores c_values c_due c_outputs c_fired c_made c_classes c_size c_taken c_stateClass c_finerClass c_usedBits c_offsets c_owners) H → va_D A (CW ad ca c_states c_transitions c_timerEvent c_from c_event c_next c_variable c_relation c_number c_actions c_kind c_a c_b c_present c_now c_emits c_kept c_ignores c_values c_due c_outputs c_fired c_made c_classes c_size c_taken c_stateClass c_finerClass c_usedBits c_offsets c_owners) → va_S A s.heap H locs → lv_has ls 3 [(0, .ref (ad 3)), (1, .int v1)] → X2_findUsedCells_L10 c_transitions c_from c_event c_stateClass n10 c_usedBits v1 = some o → W p l e rmX2_findUsedCells s m args below meth c H locs 0 0 Z (F0 m 10 ls []) := by
    intro n10
    induction n10 with
    | zero =>
      intro c_usedBits v1 H locs ls hP hD hS hl hf
      exact pr_n hf
    | succ n10 ih10 =>
      intro c_usedBits v1 H locs ls hP hD hS hl hf
      replace hf : X2_findUsedCells_B10 c_transitions c_from c_event c_stateClass (X2_findUsedCells_L10 c_transitions c_from c_event c_stateClass  n10) c_usedBits v1 = some o := hf
      unfold X2_findUsedCells_B10 at hf
      refine lv_iload_n hx hb dX2_findUsedCells_10 rfl (lv_at hl 1 rfl) ?_
      refine lv_aload_n hx hb dX2_findUsedCells_11 rfl (lv_at hl 0 rfl) ?_
      refine va_get (D := D) (ci := 2) (v := .ref (ad 1)) (C := RX2) (T := TX2) (N := 10) hx hb hts hiX2 hown hK hP 3 rfl rfl 0 (by decide) f41 (fun _ h9 => h9) rfl dX2_findUsedCells_12 ?_
      refine va_get (D := D) (ci := 1) (v := .int c_transitions) (C := RX1) (T := TX1) (N := 13) hx hb hts hiX1 hown hK hP 1 rfl rfl 1 (by decide) f69 (fun _ h9 => h9) rfl dX2_findUsedCells_15 ?_
      refine lv_icmp_ge (tgt := 67) hx hb dX2_findUsedCells_18 (by decide) (fun hc => ?_) (fun hc => ?_)
      · have hf := pr_t hf hc
        obtain rfl := Option.some.inj hf
        subst hZ
        exact pw_rv hx hb hr hlocks hK hP hD hS (Nat.le_of_ble_eq_true rfl) (Nat.le_of_ble_eq_true rfl) dX2_findUsedCells_67
      · have hf := pr_f hf hc
        refine lv_aload_n hx hb dX2_findUsedCells_21 rfl (lv_at hl 0 rfl) ?_
        refine va_get (D := D) (ci := 2) (v := .ref (ad 19)) (C := RX2) (T := TX2) (N := 10) hx hb hts hiX2 hown hK hP 3 rfl rfl 5 (by decide) f25 (fun _ h9 => h9) rfl dX2_findUsedCells_22 ?_
        refine lv_aload_n hx hb dX2_findUsedCells_25 rfl (lv_at hl 0 rfl) ?_
        refine va_get (D := D) (ci := 2) (v := .ref (ad 1)) (C := RX2) (T := TX2) (N := 10) hx hb hts hiX2 hown hK hP 3 rfl rfl 0 (by decide) f41 (fun _ h9 => h9) rfl dX2_findUsedCells_26 ?_
        refine va_get (D := D) (ci := 1) (v := .ref (ad 5)) (C := RX1) (T := TX1) (N := 13) hx hb hts hiX1 hown hK hP 1 rfl rfl 3 (by decide) f72 (fun _ h9 => h9) rfl dX2_findUsedCells_29 ?_
        refine lv_iload_n hx hb dX2_findUsedCells_32 rfl (lv_at hl 1 rfl) ?_
        obtain ⟨hi33, hf⟩ := pr_in hf
        refine va_iald hx hb hK hP 5 1 rfl rfl hi33 dX2_findUsedCells_33 ?_
        obtain ⟨hi34, hf⟩ := pr_in hf
        refine va_iald hx hb hK hP 19 15 rfl rfl hi34 dX2_findUsedCells_34 ?_
        refine lv_istore_n (lv' := [(2, .int (c_stateClass (c_from v1.toNatClampNeg).toNatClampNeg)), (0, .ref (ad 3)), (1, .int v1)]) hx hb dX2_findUsedCells_35 rfl hl (by decide) rfl (fun ls hl => ?_)
        refine lv_iload_n hx hb dX2_findUsedCells_36 rfl (lv_at hl 0 rfl) ?_
        refine lv_iconst (v := (-1 : Int32)) hx hb dX2_findUsedCells_37 (by decide) ?_
        refine lv_icmp_eq (tgt := 61) hx hb dX2_findUsedCells_38 (by decide) (fun hc => ?_) (fun hc => ?_)
        · have hf := pr_t hf hc
          refine lv_iinc (v := (v1 + (1 : Int32))) (lv' := [(1, .int (v1 + (1 : Int32))), (2, .int (c_stateClass (c_from v1.toNatClampNeg).toNatClampNeg)), (0, .ref (ad 3))]) hx hb dX2_findUsedCells_61 hl (k := 2) rfl rfl (by decide) rfl (fun ls hl => ?_)
          refine lv_goto (tgt := 10) hx hb dX2_findUsedCells_64 (by decide) ?_
          exact ih10 c_usedBits (v1 + (1 : Int32)) H locs ls hP hD hS (lv_sub hl [2, 0] rfl) hf
        · have hf := pr_f hf hc
          refine lv_aload_n hx hb dX2_findUsedCells_41 rfl (lv_at hl 1 rfl) ?_
          refine va_get (D := D) (ci := 2) (v := .ref (ad 21)) (C := RX2) (T := TX2) (N := 10) hx hb hts hiX2 hown hK hP 3 rfl rfl 7 (by decide) f32 (fun _ h9 => h9) rfl dX2_findUsedCells_42 ?_
          refine lv_iload_n hx hb dX2_findUsedCells_45 rfl (lv_at hl 0 rfl) ?_
          refine lv_dup2_11 hx hb dX2_findUsedCells_46 rfl rfl ?_
          obtain ⟨hi47, hf⟩ := pr_in hf
          refine va_iald hx hb hK hP 21 17 rfl rfl hi47 dX2_findUsedCells_47 ?_
          refine lv_iconst (v := (1 : Int32)) hx hb dX2_findUsedCells_48 (by decide) ?_
          refine lv_aload_n hx hb dX2_findUsedCells_49 rfl (lv_at hl 1 rfl) ?_
          refine va_get (D := D) (ci := 2) (v := .ref (ad 1)) (C := RX2) (T := TX2) (N := 10) hx hb hts hiX2 hown hK hP 3 rfl rfl 0 (by decide) f41 (fun _ h9 => h9) rfl dX2_findUsedCells_50 ?_
          refine va_get (D := D) (ci := 1) (v := .ref (ad 6)) (C := RX1) (T := TX1) (N := 13) hx hb hts hiX1 hown hK hP 1 rfl rfl 4 (by decide) f103 (fun _ h9 => h9) rfl dX2_findUsedCells_53 ?_
          refine lv_iload_n hx hb dX2_findUsedCells_56 rfl (lv_at hl 2 rfl) ?_
          refine va_iald hx hb hK hP 6 2 rfl rfl hi33 dX2_findUsedCells_57 ?_
          refine lv_ishl hx hb dX2_findUsedCells_58 ?_
          refine lv_ior hx hb dX2_findUsedCells_59 ?_
          refine va_iast hx hb hK hP hD hS 21 17 rfl rfl hi47 dX2_findUsedCells_60 (fun H locs hP hD hS => ?_)
          have hP : va_P D vwCl (CW ad ca c_states c_transitions c_timerEvent c_from c_event c_next c_variable c_relation c_number c_actions c_kind c_a c_b c_present c_now c_emits c_kept c_ignores c_values c_due c_outputs c_fired c_made c_classes c_size c_taken c_stateClass c_finerClass (upd c_usedBits (c_stateClass (c_from v1.toNatClampNeg).toNatClampNeg).toNatClampNeg ((c_usedBits (c_stateClass (c_from v1.toNatClampNeg).toNatClampNeg).toNatClampNeg) ||| ((1 : Int32) <<< ((c_event v1.toNatClampNeg) &&& 31)))) c_offsets c_owners) H := hP
          have hD : va_D A (CW ad ca c_states c_transitions c_timerEvent c_from c_event c_next c_variable c_relation c_number c_actions c_kind c_a c_b c_present c_now c_emits c_kept c_ignores c_values c_due c_outputs c_fired c_made c_classes c_size c_taken c_stateClass c_finerClass (upd c_usedBits (c_stateClass (c_from v1.toNatClampNeg).toNatClampNeg).toNatClampNeg ((c_usedBits (c_stateClass (c_from v1.toNatClampNeg).toNatClampNeg).toNatClampNeg) ||| ((1 : Int32) <<< ((c_event v1.toNatClampNeg) &&& 31)))) c_offsets c_owners) := hD
          refine lv_iinc (v := (v1 + (1 : Int32))) (lv' := [(1, .int (v1 + (1 : Int32))), (2, .int (c_stateClass (c_from v1.toNatClampNeg).toNatClampNeg)), (0, .ref (ad 3))]) hx hb dX2_findUsedCells_61 hl (k := 2) rfl rfl (by decide) rfl (fun ls hl => ?_)
          refine lv_goto (tgt := 10) hx hb dX2_findUsedCells_64 (by decide) ?_
          exact ih10 (upd c_usedBits (c_stateClass (c_from v1.toNatClampNeg).toNatClampNeg).toNatClampNeg ((c_usedBits (c_stateClass (c_from v1.toNatClampNeg).toNatClampNeg).toNatClampNeg) ||| ((1 : Int32) <<< ((c_event v1.toNatClampNeg) &&& 31)))) (v1 + (1 : Int32)) H locs ls hP hD hS (lv_sub hl [2, 0] rfl) hf
  unfold X2_findUsedCells at hf
  refine lv_aload_n hx hb dX2_findUsedCells_0 rfl (lv_at hl 0 rfl) ?_
  refine va_get (D := D) (ci := 2) (v := .ref (ad 21)) (C := RX2) (T := TX2) (N := 10) hx hb hts hiX2 hown hK hP 3 rfl rfl 7 (by decide) f32 (fun _ h9 => h9) rfl dX2_findUsedCells_1 ?_
  refine lv_iconst (v := (0 : Int32)) hx hb dX2_findUsedCells_4 (by decide) ?_
  obtain ⟨x5, hg5, hf⟩ := pr_b hf
  have hKc := hK.sub (tys' := [(ca 21, .int)]) [17] rfl
  refine pw_cSvP (As := [.ref (ad 21), .int (0 : Int32)]) (rest := []) ⟨hx, hb, hml, hown, hts⟩ (c_J7_fill_53178 fu (D := D) 12 (ad 21) (ca 21) c_usedBits (0 : Int32) hg5) (va_cwS 2 hts gX2_findUsedCells_J7_fill_53178 rfl rfl rfl (by decide +kernel) ⟨Nat.le_of_ble_eq_true rfl, Nat.le_of_ble_eq_true rfl⟩) hKc hP hD hS hA [21] [0, 1, 2, 3, 4, 5, 6, 7, 8, 9, 10, 11, 12, 13, 14, 15, 16, 17, 18, 19, 20, 22, 23] rfl rfl (by decide) (by decide) (by decide) rfl hl.1 rfl (Nat.le_of_ble_eq_true rfl) dX2_findUsedCells_5 ⟨Nat.le_of_ble_eq_true rfl, Nat.le_of_ble_eq_true rfl⟩ (fun H locs hP hD hS => ?_)
  have hP := hP.sub (ws' := (CW ad ca c_states c_transitions c_timerEvent c_from c_event c_next c_variable c_relation c_number c_actions c_kind c_a c_b c_present c_now c_emits c_kept c_ignores c_values c_due c_outputs c_fired c_made c_classes c_size c_taken c_stateClass c_finerClass x5 c_offsets c_owners)) [0, 1, 2, 3, 4, 5, 6, 7, 8, 9, 10, 11, 12, 13, 14, 15, 16, 17, 18, 19, 20, 23, 21, 22] rfl
  have hD := hD.sub (ws' := (CW ad ca c_states c_transitions c_timerEvent c_from c_event c_next c_variable c_relation c_number c_actions c_kind c_a c_b c_present c_now c_emits c_kept c_ignores c_values c_due c_outputs c_fired c_made c_classes c_size c_taken c_stateClass c_finerClass x5 c_offsets c_owners)) [0, 1, 2, 3, 4, 5, 6, 7, 8, 9, 10, 11, 12, 13, 14, 15, 16, 17, 18, 19, 20, 23, 21, 22] (by decide) rfl
  refine lv_iconst (v := (0 : Int32)) hx hb dX2_findUsedCells_8 (by decide) ?_
  refine lv_istore_n (lv' := [(1, .int (0 : Int32)), (0, .ref (ad 3))]) hx hb dX2_findUsedCells_9 rfl hl (by decide) rfl (fun ls hl => ?_)
  exact L10 fu x5 (0 : Int32) H locs ls hP hD hS (lv_sub hl [1, 0] rfl) hf
abbrev rmX2_usedCells : Room := { frames := 1, cells := 0, slots := 0, locals := 20 }
set_option maxHeartbeats 4000000 in
set_option maxRecDepth 100000 in
theorem c_X2_usedCells {l : Launch} {D : va_G} {ad : Nat → Nat} {ca : Nat → ClassId} (c_states c_transitions : Int32) (c_timerEvent c_from c_event c_next c_variable c_relation c_number c_actions c_kind c_a c_b : Nat → Int32) (c_present : Int32) (c_now : Int64) (c_emits c_kept c_ignores : Int32) (c_values : Nat → Int32) (c_due : Nat → Int64) (c_outputs c_fired : Nat → Int32) (c_made c_classes c_size c_taken : Int32) (c_stateClass c_finerClass c_usedBits c_offsets c_owners : Nat → Int32) (v1 : Int32) {o : Int32} (hf : X2_usedCells c_usedBits v1 = some o) : Ci l yX2_usedCells wsX2_usedCells rmX2_usedCells D (CT ca) (CW ad ca c_states c_transitions c_timerEvent c_from c_event c_next c_variable c_relation c_number c_actions c_kind c_a c_b c_present c_now c_emits c_kept c_ignores c_values c_due c_outputs c_fired c_made c_classes c_size c_taken c_stateClass c_finerClass c_usedBits c_offsets c_owners) [.ref (ad 3), .int v1] o (CW ad ca c_states c_transitions c_timerEvent c_from c_event c_next c_variable c_relation c_number c_actions c_kind c_a c_b c_present c_now c_emits c_kept c_ignores c_values c_due c_outputs c_fired c_made c_classes c_size c_taken c_stateClass c_finerClass c_usedBits c_offsets c_owners) := by
  intro sz
  refine pw_entry (Qc := fun A => pw_Qi D (CT ca) (CW ad ca c_states c_transitions c_timerEvent c_from c_event c_next c_variable c_relation c_number c_actions c_kind c_a c_b c_present c_now c_emits c_kept c_ignores c_values c_due c_outputs c_fired c_made c_classes c_size c_taken c_stateClass c_finerClass c_usedBits c_offsets c_owners) A o) (cc := cX2_usedCells) (maxL := 2) (ret := (some .int)) (by decide) rfl (Nat.le_of_ble_eq_true rfl) ?_ sz
  intro p e s m args below meth c A ls Z H locs hx hb hr hlocks hts hown hml hnm hK hP hD hS hA hl hZ
  have hown : s.vm.findClass RX2 = some m.cls := hown
  have hiX2 : ∀ w ∈ u_ws RX2 TX2 10, w ∈ wsX2_usedCells := by decide +kernel
  have f32 := hts (.fieldLink RX2 32 "ProtocolMachine$Table" "usedBits" "[I") (by decide +kernel)
  have hl : lv_has ls 2 [(0, .ref (ad 3)), (1, .int v1)] := hl
  unfold X2_usedCells at hf
  refine lv_aload_n hx hb dX2_usedCells_0 rfl (lv_at hl 0 rfl) ?_
  refine va_get (D := D) (ci := 2) (v := .ref (ad 21)) (C := RX2) (T := TX2) (N := 10) hx hb hts hiX2 hown hK hP 3 rfl rfl 7 (by decide) f32 (fun _ h9 => h9) rfl dX2_usedCells_1 ?_
  refine lv_iload_n hx hb dX2_usedCells_4 rfl (lv_at hl 1 rfl) ?_
  obtain ⟨hi5, hf⟩ := pr_in hf
  refine va_iald hx hb hK hP 21 17 rfl rfl hi5 dX2_usedCells_5 ?_
  obtain ⟨x6, hg6, hf⟩ := pr_b hf
  refine pw_cSiE (As := [.int (c_usedBits v1.toNatClampNeg)]) (rest := []) ⟨hx, hb, hml, hown, hts⟩ (c_J6_bitCount_0f7a4 (D := D) (tys := (CT ca)) (c_usedBits v1.toNatClampNeg) hg6) (va_cwS 1 hts gX2_usedCells_J6_bitCount_0f7a4 rfl rfl rfl (by decide +kernel) ⟨Nat.le_of_ble_eq_true rfl, Nat.le_of_ble_eq_true rfl⟩) hK hP hD hS hA rfl hl.1 rfl (Nat.le_of_ble_eq_true rfl) dX2_usedCells_6 ⟨Nat.le_of_ble_eq_true rfl, Nat.le_of_ble_eq_true rfl⟩ (fun H locs hP hD hS => ?_)
  obtain rfl := Option.some.inj hf
  subst hZ
  exact pw_ri hx hb hr hlocks hK hP hD hS (Nat.le_of_ble_eq_true rfl) (Nat.le_of_ble_eq_true rfl) dX2_usedCells_9
abbrev rmX2_isUsed : Room := { frames := 0, cells := 0, slots := 0, locals := 0 }
set_option maxHeartbeats 4000000 in
set_option maxRecDepth 100000 in
theorem c_X2_isUsed {l : Launch} {D : va_G} {ad : Nat → Nat} {ca : Nat → ClassId} (c_states c_transitions : Int32) (c_timerEvent c_from c_event c_next c_variable c_relation c_number c_actions c_kind c_a c_b : Nat → Int32) (c_present : Int32) (c_now : Int64) (c_emits c_kept c_ignores : Int32) (c_values : Nat → Int32) (c_due : Nat → Int64) (c_outputs c_fired : Nat → Int32) (c_made c_classes c_size c_taken : Int32) (c_stateClass c_finerClass c_usedBits c_offsets c_owners : Nat → Int32) (v1 v2 : Int32) {o : Int32} (hf : X2_isUsed c_usedBits v1 v2 = some o) : Ci l yX2_isUsed wsX2_isUsed rmX2_isUsed D (CT ca) (CW ad ca c_states c_transitions c_timerEvent c_from c_event c_next c_variable c_relation c_number c_actions c_kind c_a c_b c_present c_now c_emits c_kept c_ignores c_values c_due c_outputs c_fired c_made c_classes c_size c_taken c_stateClass c_finerClass c_usedBits c_offsets c_owners) [.ref (ad 3), .int v1, .int v2] o (CW ad ca c_states c_transitions c_timerEvent c_from c_event c_next c_variable c_relation c_number c_actions c_kind c_a c_b c_present c_now c_emits c_kept c_ignores c_values c_due c_outputs c_fired c_made c_classes c_size c_taken c_stateClass c_finerClass c_usedBits c_offsets c_owners) := by
  intro sz
  refine pw_entry (Qc := fun A => pw_Qi D (CT ca) (CW ad ca c_states c_transitions c_timerEvent c_from c_event c_next c_variable c_relation c_number c_actions c_kind c_a c_b c_present c_now c_emits c_kept c_ignores c_values c_due c_outputs c_fired c_made c_classes c_size c_taken c_stateClass c_finerClass c_usedBits c_offsets c_owners) A o) (cc := cX2_isUsed) (maxL := 3) (ret := (some .boolean)) (by decide) rfl (Nat.le_of_ble_eq_true rfl) ?_ sz
  intro p e s m args below meth c A ls Z H locs hx hb hr hlocks hts hown hml hnm hK hP hD hS hA hl hZ
  have hown : s.vm.findClass RX2 = some m.cls := hown
  have hiX2 : ∀ w ∈ u_ws RX2 TX2 10, w ∈ wsX2_isUsed := by decide +kernel
  have f32 := hts (.fieldLink RX2 32 "ProtocolMachine$Table" "usedBits" "[I") (by decide +kernel)
  have hl : lv_has ls 3 [(0, .ref (ad 3)), (1, .int v1), (2, .int v2)] := hl
  unfold X2_isUsed at hf
  refine lv_aload_n hx hb dX2_isUsed_0 rfl (lv_at hl 0 rfl) ?_
  refine va_get (D := D) (ci := 2) (v := .ref (ad 21)) (C := RX2) (T := TX2) (N := 10) hx hb hts hiX2 hown hK hP 3 rfl rfl 7 (by decide) f32 (fun _ h9 => h9) rfl dX2_isUsed_1 ?_
  refine lv_iload_n hx hb dX2_isUsed_4 rfl (lv_at hl 1 rfl) ?_
  obtain ⟨hi5, hf⟩ := pr_in hf
  refine va_iald hx hb hK hP 21 17 rfl rfl hi5 dX2_isUsed_5 ?_
  refine lv_iload_n hx hb dX2_isUsed_6 rfl (lv_at hl 2 rfl) ?_
  refine lv_ishr hx hb dX2_isUsed_7 ?_
  refine lv_iconst (v := (1 : Int32)) hx hb dX2_isUsed_8 (by decide) ?_
  refine lv_iand hx hb dX2_isUsed_9 ?_
  refine lv_if_eq (tgt := 17) hx hb dX2_isUsed_10 (by decide) (fun hc => ?_) (fun hc => ?_)
  · have hf := pr_t hf hc
    refine lv_iconst (v := (0 : Int32)) hx hb dX2_isUsed_17 (by decide) ?_
    obtain rfl := Option.some.inj hf
    subst hZ
    exact pw_rz hx hb hr hlocks (Or.inl rfl) hK hP hD hS (Nat.le_of_ble_eq_true rfl) (Nat.le_of_ble_eq_true rfl) dX2_isUsed_18
  · have hf := pr_f hf hc
    refine lv_iconst (v := (1 : Int32)) hx hb dX2_isUsed_13 (by decide) ?_
    refine lv_goto (tgt := 18) hx hb dX2_isUsed_14 (by decide) ?_
    obtain rfl := Option.some.inj hf
    subst hZ
    exact pw_rz hx hb hr hlocks (Or.inr rfl) hK hP hD hS (Nat.le_of_ble_eq_true rfl) (Nat.le_of_ble_eq_true rfl) dX2_isUsed_18
abbrev rmX2_isFree : Room := { frames := 1, cells := 0, slots := 0, locals := 22 }
set_option maxHeartbeats 4000000 in
set_option maxRecDepth 100000 in
theorem c_X2_isFree {l : Launch} {D : va_G} {ad : Nat → Nat} {ca : Nat → ClassId} (fu : Nat) (c_states c_transitions : Int32) (c_timerEvent c_from c_event c_next c_variable c_relation c_number c_actions c_kind c_a c_b : Nat → Int32) (c_present : Int32) (c_now : Int64) (c_emits c_kept c_ignores : Int32) (c_values : Nat → Int32) (c_due : Nat → Int64) (c_outputs c_fired : Nat → Int32) (c_made c_classes c_size c_taken : Int32) (c_stateClass c_finerClass c_usedBits c_offsets c_owners : Nat → Int32) (v1 v2 : Int32) {o : Int32} (hf : X2_isFree fu c_usedBits c_owners v1 v2 = some o) : Ci l yX2_isFree wsX2_isFree rmX2_isFree D (CT ca) (CW ad ca c_states c_transitions c_timerEvent c_from c_event c_next c_variable c_relation c_number c_actions c_kind c_a c_b c_present c_now c_emits c_kept c_ignores c_values c_due c_outputs c_fired c_made c_classes c_size c_taken c_stateClass c_finerClass c_usedBits c_offsets c_owners) [.ref (ad 3), .int v1, .int v2] o (CW ad ca c_states c_transitions c_timerEvent c_from c_event c_next c_variable c_relation c_number c_actions c_kind c_a c_b c_present c_now c_emits c_kept c_ignores c_values c_due c_outputs c_fired c_made c_classes c_size c_taken c_stateClass c_finerClass c_usedBits c_offsets c_owners) := by
  intro sz
  refine pw_entry (Qc := fun A => pw_Qi D (CT ca) (CW ad ca c_states c_transitions c_timerEvent c_from c_event c_next c_variable c_relation c_number c_actions c_kind c_a c_b c_present c_now c_emits c_kept c_ignores c_values c_due c_outputs c_fired c_made c_classes c_size c_taken c_stateClass c_finerClass c_usedBits c_offsets c_owners) A o) (cc := cX2_isFree) (maxL := 4) (ret := (some .boolean)) (by decide) rfl (Nat.le_of_ble_eq_true rfl) ?_ sz
  intro p e s m args below meth c A ls Z H locs hx hb hr hlocks hts hown hml hnm hK hP hD hS hA hl hZ
  have hown : s.vm.findClass RX2 = some m.cls := hown
  have hiX2 : ∀ w ∈ u_ws RX2 TX2 10, w ∈ wsX2_isFree := by decide +kernel
  have f38 := hts (.fieldLink RX2 38 "ProtocolMachine$Table" "owners" "[I") (by decide +kernel)
  have hl : lv_has ls 4 [(0, .ref (ad 3)), (1, .int v1), (2, .int v2)] := hl
  have L2 : ∀ n2 : Nat, ∀ (v3 : Int32) (H : Heap) (locs : List Loc) (ls : Array Slot), va_P D vwCl (CW ad ca c_states c_transitions c_timerEvent c_from c_event c_next c_variable c_relation c_number c_actions c_kind c_a c_b c_present c_now c_emits c_kept c_ignores c_values c_due c_outputs c_fired c_made c_classes c_size c_taken c_stateClass c_finerClass c_usedBits c_offsets c_owners) H → va_D A (CW ad ca c_states c_transitions c_timerEvent c_from c_event c_next c_variable c_relation c_number c_actions c_kind c_a c_b c_present c_now c_emits c_kept c_ignores c_values c_due c_outputs c_fired c_made c_classes c_size c_taken c_stateClass c_finerClass c_usedBits c_offsets c_owners) → va_S A s.heap H locs → lv_has ls 4 [(0, .ref (ad 3)), (1, .int v1), (2, .int v2), (3, .int v3)] → X2_isFree_L2 c_usedBits c_owners v1 v2 n2 v3 = some o → W p l e rmX2_isFree s m args below meth c H locs 0 0 Z (F0 m 2 ls []) := by
    intro n2
    induction n2 with
    | zero =>
      intro v3 H locs ls hP hD hS hl hf
      exact pr_n hf
    | succ n2 ih2 =>
      intro v3 H locs ls hP hD hS hl hf
      replace hf : X2_isFree_B2 c_usedBits c_owners v1 v2 (X2_isFree_L2 c_usedBits c_owners v1 v2  n2) v3 = some o := hf
      unfold X2_isFree_B2 at hf
      refine lv_iload_n hx hb dX2_isFree_2 rfl (lv_at hl 3 rfl) ?_
      refine lv_bipush (v := (8 : Int32)) hx hb dX2_isFree_3 (by decide) ?_
      refine lv_icmp_ge (tgt := 37) hx hb dX2_isFree_5 (by decide) (fun hc => ?_) (fun hc => ?_)
      · have hf := pr_t hf hc
        refine lv_iconst (v := (1 : Int32)) hx hb dX2_isFree_37 (by decide) ?_
        obtain rfl := Option.some.inj hf
        subst hZ
        exact pw_rz hx hb hr hlocks (Or.inr rfl) hK hP hD hS (Nat.le_of_ble_eq_true rfl) (Nat.le_of_ble_eq_true rfl) dX2_isFree_38
      · have hf := pr_f hf hc
        refine lv_aload_n hx hb dX2_isFree_8 rfl (lv_at hl 0 rfl) ?_
        refine lv_iload_n hx hb dX2_isFree_9 rfl (lv_at hl 1 rfl) ?_
        refine lv_iload_n hx hb dX2_isFree_10 rfl (lv_at hl 3 rfl) ?_
        obtain ⟨x11, hg11, hf⟩ := pr_b hf
        refine pw_cViW (b := ad 3) (As := [.int v1, .int v3]) (rest := []) ⟨hx, hb, hml, hown, hts⟩ (c_X2_isUsed (D := D) c_states c_transitions c_timerEvent c_from c_event c_next c_variable c_relation c_number c_actions c_kind c_a c_b c_present c_now c_emits c_kept c_ignores c_values c_due c_outputs c_fired c_made c_classes c_size c_taken c_stateClass c_finerClass c_usedBits c_offsets c_owners v1 v3 hg11) (cwV 2 hts gX2_isFree_X2_isUsed rfl rfl rfl (by decide +kernel) ⟨Nat.le_of_ble_eq_true rfl, Nat.le_of_ble_eq_true rfl⟩) 3 2 rfl rfl hK hP hD hS hA rfl hl.1 rfl (Nat.le_of_ble_eq_true rfl) dX2_isFree_11 ⟨Nat.le_of_ble_eq_true rfl, Nat.le_of_ble_eq_true rfl⟩ (fun H locs hP hD hS => ?_)
        refine lv_if_eq (tgt := 31) hx hb dX2_isFree_14 (by decide) (fun hc => ?_) (fun hc => ?_)
        · have hf := pr_t hf hc
          refine lv_iinc (v := (v3 + (1 : Int32))) (lv' := [(3, .int (v3 + (1 : Int32))), (0, .ref (ad 3)), (1, .int v1), (2, .int v2)]) hx hb dX2_isFree_31 hl (k := 3) rfl rfl (by decide) rfl (fun ls hl => ?_)
          refine lv_goto (tgt := 2) hx hb dX2_isFree_34 (by decide) ?_
          exact ih2 (v3 + (1 : Int32)) H locs ls hP hD hS (lv_sub hl [1, 2, 3, 0] rfl) hf
        · have hf := pr_f hf hc
          refine lv_aload_n hx hb dX2_isFree_17 rfl (lv_at hl 0 rfl) ?_
          refine va_get (D := D) (ci := 2) (v := .ref (ad 23)) (C := RX2) (T := TX2) (N := 10) hx hb hts hiX2 hown hK hP 3 rfl rfl 9 (by decide) f38 (fun _ h9 => h9) rfl dX2_isFree_18 ?_
          refine lv_iload_n hx hb dX2_isFree_21 rfl (lv_at hl 2 rfl) ?_
          refine lv_iload_n hx hb dX2_isFree_22 rfl (lv_at hl 3 rfl) ?_
          refine lv_iadd hx hb dX2_isFree_23 ?_
          obtain ⟨hi24, hf⟩ := pr_in hf
          refine va_iald hx hb hK hP 23 19 rfl rfl hi24 dX2_isFree_24 ?_
          refine lv_iconst (v := (-1 : Int32)) hx hb dX2_isFree_25 (by decide) ?_
          refine lv_icmp_eq (tgt := 31) hx hb dX2_isFree_26 (by decide) (fun hc => ?_) (fun hc => ?_)
          · have hf := pr_t hf hc
            refine lv_iinc (v := (v3 + (1 : Int32))) (lv' := [(3, .int (v3 + (1 : Int32))), (0, .ref (ad 3)), (1, .int v1), (2, .int v2)]) hx hb dX2_isFree_31 hl (k := 3) rfl rfl (by decide) rfl (fun ls hl => ?_)
            refine lv_goto (tgt := 2) hx hb dX2_isFree_34 (by decide) ?_
            exact ih2 (v3 + (1 : Int32)) H locs ls hP hD hS (lv_sub hl [1, 2, 3, 0] rfl) hf
          · have hf := pr_f hf hc
            refine lv_iconst (v := (0 : Int32)) hx hb dX2_isFree_29 (by decide) ?_
            obtain rfl := Option.some.inj hf
            subst hZ
            exact pw_rz hx hb hr hlocks (Or.inl rfl) hK hP hD hS (Nat.le_of_ble_eq_true rfl) (Nat.le_of_ble_eq_true rfl) dX2_isFree_30
  unfold X2_isFree at hf
  refine lv_iconst (v := (0 : Int32)) hx hb dX2_isFree_0 (by decide) ?_
  refine lv_istore_n (lv' := [(3, .int (0 : Int32)), (0, .ref (ad 3)), (1, .int v1), (2, .int v2)]) hx hb dX2_isFree_1 rfl hl (by decide) rfl (fun ls hl => ?_)
  exact L2 fu (0 : Int32) H locs ls hP hD hS (lv_sub hl [1, 2, 3, 0] rfl) hf
abbrev rmX2_layRow : Room := { frames := 2, cells := 0, slots := 0, locals := 45 }
set_option maxHeartbeats 4000000 in
set_option maxRecDepth 100000 in
theorem c_X2_layRow {l : Launch} {D : va_G} {ad : Nat → Nat} {ca : Nat → ClassId} (fu : Nat) (c_states c_transitions : Int32) (c_timerEvent c_from c_event c_next c_variable c_relation c_number c_actions c_kind c_a c_b : Nat → Int32) (c_present : Int32) (c_now : Int64) (c_emits c_kept c_ignores : Int32) (c_values : Nat → Int32) (c_due : Nat → Int64) (c_outputs c_fired : Nat → Int32) (c_made c_classes c_size c_taken : Int32) (c_stateClass c_finerClass c_usedBits c_offsets c_owners : Nat → Int32) (v1 : Int32) {o : Int32 × Int32 × (Nat → Int32) × (Nat → Int32)} (hf : X2_layRow fu c_size c_taken c_usedBits c_offsets c_owners v1 = some o) : Cv l yX2_layRow wsX2_layRow rmX2_layRow D (CT ca) (CW ad ca c_states c_transitions c_timerEvent c_from c_event c_next c_variable c_relation c_number c_actions c_kind c_a c_b c_present c_now c_emits c_kept c_ignores c_values c_due c_outputs c_fired c_made c_classes c_size c_taken c_stateClass c_finerClass c_usedBits c_offsets c_owners) [.ref (ad 3), .int v1] (CW ad ca c_states c_transitions c_timerEvent c_from c_event c_next c_variable c_relation c_number c_actions c_kind c_a c_b c_present c_now c_emits c_kept c_ignores c_values c_due c_outputs c_fired c_made c_classes o.1 o.2.1 c_stateClass c_finerClass c_usedBits o.2.2.1 o.2.2.2) := by
  intro sz
  refine pw_entry (Qc := fun A => pw_Qv D (CT ca) (CW ad ca c_states c_transitions c_timerEvent c_from c_event c_next c_variable c_relation c_number c_actions c_kind c_a c_b c_present c_now c_emits c_kept c_ignores c_values c_due c_outputs c_fired c_made c_classes o.1 o.2.1 c_stateClass c_finerClass c_usedBits o.2.2.1 o.2.2.2) A) (cc := cX2_layRow) (maxL := 4) (ret := none) (by decide) rfl (Nat.le_of_ble_eq_true rfl) ?_ sz
  intro p e s m args below meth c A ls Z H locs hx hb hr hlocks hts hown hml hnm hK hP hD hS hA hl hZ
  have hown : s.vm.findClass RX2 = some m.cls := hown
  have hiX2 : ∀ w ∈ u_ws RX2 TX2 10, w ∈ wsX2_layRow := by decide +kernel
  have f19 := hts (.fieldLink RX2 19 "ProtocolMachine$Table" "size" "I") (by decide +kernel)
  have f22 := hts (.fieldLink RX2 22 "ProtocolMachine$Table" "taken" "I") (by decide +kernel)
  have f35 := hts (.fieldLink RX2 35 "ProtocolMachine$Table" "offsets" "[I") (by decide +kernel)
  have f38 := hts (.fieldLink RX2 38 "ProtocolMachine$Table" "owners" "[I") (by decide +kernel)
  have mc_max := hts (.code Lib.Math.max.name Lib.Math.max.code 2 (some .int)) (by decide +kernel)
  have mi := hts (.initialized "java/lang/Math") (by decide +kernel)
  have ml124 := hts (.methodLink RX2 124 Lib.Math.max.name) (by decide +kernel)
  have ms_max := hts (.static Lib.Math.max.name) (by decide +kernel)
  have hl : lv_has ls 4 [(0, .ref (ad 3)), (1, .int v1)] := hl
  have L32 : ∀ n32 : Nat, ∀ (c_size c_taken : Int32) (c_offsets c_owners : Nat → Int32) (v2 v3 : Int32) (H : Heap) (locs : List Loc) (ls : Array Slot), va_P D vwCl (CW ad ca c_states c_transitions c_timerEvent c_from c_event c_next c_variable c_relation c_number c_actions c_kind c_a c_b c_present c_now c_emits c_kept c_ignores c_values c_due c_outputs c_fired c_made c_classes c_size c_taken c_stateClass c_finerClass c_usedBits c_offsets c_owners) H → va_D A (CW ad ca c_states c_transitions c_timerEvent c_from c_event c_next c_variable c_relation c_number c_actions c_kind c_a c_b c_present c_now c_emits c_kept c_ignores c_values c_due c_outputs c_fired c_made c_classes c_size c_taken c_stateClass c_finerClass c_usedBits c_offsets c_owners) → va_S A s.heap H locs → lv_has ls 4 [(0, .ref (ad 3)), (1, .int v1), (2, .int v2), (3, .int v3)] → X2_layRow_L32 c_usedBits v1 n32 c_size c_taken c_offsets c_owners v2 v3 = some o → W p l e rmX2_layRow s m args below meth c H locs 0 0 Z (F0 m 32 ls []) := by
    intro n32
    induction n32 with
    | zero =>
      intro c_size c_taken c_offsets c_owners v2 v3 H locs ls hP hD hS hl hf
      exact pr_n hf
    | succ n32 ih32 =>
      intro c_size c_taken c_offsets c_owners v2 v3 H locs ls hP hD hS hl hf
      replace hf : X2_layRow_B32 c_usedBits v1 (X2_layRow_L32 c_usedBits v1  n32) c_size c_taken c_offsets c_owners v2 v3 = some o := hf
      unfold X2_layRow_B32 at hf
      refine lv_iload_n hx hb dX2_layRow_32 rfl (lv_at hl 3 rfl) ?_
      refine lv_bipush (v := (8 : Int32)) hx hb dX2_layRow_33 (by decide) ?_
      refine lv_icmp_ge (tgt := 88) hx hb dX2_layRow_35 (by decide) (fun hc => ?_) (fun hc => ?_)
      · have hf := pr_t hf hc
        obtain rfl := Option.some.inj hf
        subst hZ
        exact pw_rv hx hb hr hlocks hK hP hD hS (Nat.le_of_ble_eq_true rfl) (Nat.le_of_ble_eq_true rfl) dX2_layRow_88
      · have hf := pr_f hf hc
        refine lv_aload_n hx hb dX2_layRow_38 rfl (lv_at hl 0 rfl) ?_
        refine lv_iload_n hx hb dX2_layRow_39 rfl (lv_at hl 1 rfl) ?_
        refine lv_iload_n hx hb dX2_layRow_40 rfl (lv_at hl 3 rfl) ?_
        obtain ⟨x41, hg41, hf⟩ := pr_b hf
        refine pw_cViW (b := ad 3) (As := [.int v1, .int v3]) (rest := []) ⟨hx, hb, hml, hown, hts⟩ (c_X2_isUsed (D := D) c_states c_transitions c_timerEvent c_from c_event c_next c_variable c_relation c_number c_actions c_kind c_a c_b c_present c_now c_emits c_kept c_ignores c_values c_due c_outputs c_fired c_made c_classes c_size c_taken c_stateClass c_finerClass c_usedBits c_offsets c_owners v1 v3 hg41) (cwV 2 hts gX2_layRow_X2_isUsed rfl rfl rfl (by decide +kernel) ⟨Nat.le_of_ble_eq_true rfl, Nat.le_of_ble_eq_true rfl⟩) 3 2 rfl rfl hK hP hD hS hA rfl hl.1 rfl (Nat.le_of_ble_eq_true rfl) dX2_layRow_41 ⟨Nat.le_of_ble_eq_true rfl, Nat.le_of_ble_eq_true rfl⟩ (fun H locs hP hD hS => ?_)
        refine lv_if_eq (tgt := 82) hx hb dX2_layRow_44 (by decide) (fun hc => ?_) (fun hc => ?_)
        · have hf := pr_t hf hc
          refine lv_iinc (v := (v3 + (1 : Int32))) (lv' := [(3, .int (v3 + (1 : Int32))), (0, .ref (ad 3)), (1, .int v1), (2, .int v2)]) hx hb dX2_layRow_82 hl (k := 3) rfl rfl (by decide) rfl (fun ls hl => ?_)
          refine lv_goto (tgt := 32) hx hb dX2_layRow_85 (by decide) ?_
          exact ih32 c_size c_taken c_offsets c_owners v2 (v3 + (1 : Int32)) H locs ls hP hD hS (lv_sub hl [1, 2, 3, 0] rfl) hf
        · have hf := pr_f hf hc
          refine lv_aload_n hx hb dX2_layRow_47 rfl (lv_at hl 0 rfl) ?_
          refine va_get (D := D) (ci := 2) (v := .ref (ad 23)) (C := RX2) (T := TX2) (N := 10) hx hb hts hiX2 hown hK hP 3 rfl rfl 9 (by decide) f38 (fun _ h9 => h9) rfl dX2_layRow_48 ?_
          refine lv_iload_n hx hb dX2_layRow_51 rfl (lv_at hl 2 rfl) ?_
          refine lv_iload_n hx hb dX2_layRow_52 rfl (lv_at hl 3 rfl) ?_
          refine lv_iadd hx hb dX2_layRow_53 ?_
          refine lv_iload_n hx hb dX2_layRow_54 rfl (lv_at hl 1 rfl) ?_
          obtain ⟨hi55, hf⟩ := pr_in hf
          refine va_iast hx hb hK hP hD hS 23 19 rfl rfl hi55 dX2_layRow_55 (fun H locs hP hD hS => ?_)
          have hP : va_P D vwCl (CW ad ca c_states c_transitions c_timerEvent c_from c_event c_next c_variable c_relation c_number c_actions c_kind c_a c_b c_present c_now c_emits c_kept c_ignores c_values c_due c_outputs c_fired c_made c_classes c_size c_taken c_stateClass c_finerClass c_usedBits c_offsets (upd c_owners (v2 + v3).toNatClampNeg v1)) H := hP
          have hD : va_D A (CW ad ca c_states c_transitions c_timerEvent c_from c_event c_next c_variable c_relation c_number c_actions c_kind c_a c_b c_present c_now c_emits c_kept c_ignores c_values c_due c_outputs c_fired c_made c_classes c_size c_taken c_stateClass c_finerClass c_usedBits c_offsets (upd c_owners (v2 + v3).toNatClampNeg v1)) := hD
          refine lv_aload_n hx hb dX2_layRow_56 rfl (lv_at hl 0 rfl) ?_
          refine lv_aload_n hx hb dX2_layRow_57 rfl (lv_at hl 0 rfl) ?_
          refine va_get (D := D) (ci := 2) (v := .int c_size) (C := RX2) (T := TX2) (N := 10) hx hb hts hiX2 hown hK hP 3 rfl rfl 3 (by decide) f19 (fun _ h9 => h9) rfl dX2_layRow_58 ?_
          refine lv_iload_n hx hb dX2_layRow_61 rfl (lv_at hl 2 rfl) ?_
          refine lv_iload_n hx hb dX2_layRow_62 rfl (lv_at hl 3 rfl) ?_
          refine lv_iadd hx hb dX2_layRow_63 ?_
          refine lv_iconst (v := (1 : Int32)) hx hb dX2_layRow_64 (by decide) ?_
          refine lv_iadd hx hb dX2_layRow_65 ?_
          refine va_mmax hx hb (hml.trans hl.1.symm) hown ml124 ms_max mi mc_max (Nat.le_of_ble_eq_true rfl) (Nat.le_of_ble_eq_true rfl) (Nat.le_of_ble_eq_true rfl) (Nat.le_of_ble_eq_true rfl) dX2_layRow_66 ?_
          refine va_put (D := D) (ci := 2) (v := .int (if c_size < ((v2 + v3) + (1 : Int32)) then ((v2 + v3) + (1 : Int32)) else c_size)) (ty := .int) (C := RX2) (T := TX2) (N := 10) hx hb hts hiX2 tyX2 tyX2_ok nmX2 hown hK hP hD hS 3 rfl rfl 3 (by decide) f19 (fun _ h9 => h9) rfl (by decide +kernel) rfl rfl (Nat.le_of_ble_eq_true rfl) dX2_layRow_69 (fun H locs hP hD hS => ?_)
          have hP : va_P D vwCl (CW ad ca c_states c_transitions c_timerEvent c_from c_event c_next c_variable c_relation c_number c_actions c_kind c_a c_b c_present c_now c_emits c_kept c_ignores c_values c_due c_outputs c_fired c_made c_classes (if c_size < ((v2 + v3) + (1 : Int32)) then ((v2 + v3) + (1 : Int32)) else c_size) c_taken c_stateClass c_finerClass c_usedBits c_offsets (upd c_owners (v2 + v3).toNatClampNeg v1)) H := hP
          have hD : va_D A (CW ad ca c_states c_transitions c_timerEvent c_from c_event c_next c_variable c_relation c_number c_actions c_kind c_a c_b c_present c_now c_emits c_kept c_ignores c_values c_due c_outputs c_fired c_made c_classes (if c_size < ((v2 + v3) + (1 : Int32)) then ((v2 + v3) + (1 : Int32)) else c_size) c_taken c_stateClass c_finerClass c_usedBits c_offsets (upd c_owners (v2 + v3).toNatClampNeg v1)) := hD
          refine lv_aload_n hx hb dX2_layRow_72 rfl (lv_at hl 0 rfl) ?_
          refine lv_dup hx hb dX2_layRow_73 rfl ?_
          refine va_get (D := D) (ci := 2) (v := .int c_taken) (C := RX2) (T := TX2) (N := 10) hx hb hts hiX2 hown hK hP 3 rfl rfl 4 (by decide) f22 (fun _ h9 => h9) rfl dX2_layRow_74 ?_
          refine lv_iconst (v := (1 : Int32)) hx hb dX2_layRow_77 (by decide) ?_
          refine lv_iadd hx hb dX2_layRow_78 ?_
          refine va_put (D := D) (ci := 2) (v := .int (c_taken + (1 : Int32))) (ty := .int) (C := RX2) (T := TX2) (N := 10) hx hb hts hiX2 tyX2 tyX2_ok nmX2 hown hK hP hD hS 3 rfl rfl 4 (by decide) f22 (fun _ h9 => h9) rfl (by decide +kernel) rfl rfl (Nat.le_of_ble_eq_true rfl) dX2_layRow_79 (fun H locs hP hD hS => ?_)
          have hP : va_P D vwCl (CW ad ca c_states c_transitions c_timerEvent c_from c_event c_next c_variable c_relation c_number c_actions c_kind c_a c_b c_present c_now c_emits c_kept c_ignores c_values c_due c_outputs c_fired c_made c_classes (if c_size < ((v2 + v3) + (1 : Int32)) then ((v2 + v3) + (1 : Int32)) else c_size) (c_taken + (1 : Int32)) c_stateClass c_finerClass c_usedBits c_offsets (upd c_owners (v2 + v3).toNatClampNeg v1)) H := hP
          have hD : va_D A (CW ad ca c_states c_transitions c_timerEvent c_from c_event c_next c_variable c_relation c_number c_actions c_kind c_a c_b c_present c_now c_emits c_kept c_ignores c_values c_due c_outputs c_fired c_made c_classes (if c_size < ((v2 + v3) + (1 : Int32)) then ((v2 + v3) + (1 : Int32)) else c_size) (c_taken + (1 : Int32)) c_stateClass c_finerClass c_usedBits c_offsets (upd c_owners (v2 + v3).toNatClampNeg v1)) := hD
          refine lv_iinc (v := (v3 + (1 : Int32))) (lv' := [(3, .int (v3 + (1 : Int32))), (0, .ref (ad 3)), (1, .int v1), (2, .int v2)]) hx hb dX2_layRow_82 hl (k := 3) rfl rfl (by decide) rfl (fun ls hl => ?_)
          refine lv_goto (tgt := 32) hx hb dX2_layRow_85 (by decide) ?_
          exact ih32 (if c_size < ((v2 + v3) + (1 : Int32)) then ((v2 + v3) + (1 : Int32)) else c_size) (c_taken + (1 : Int32)) c_offsets (upd c_owners (v2 + v3).toNatClampNeg v1) v2 (v3 + (1 : Int32)) H locs ls hP hD hS (lv_sub hl [1, 2, 3, 0] rfl) hf
  have B23 : ∀ (v2 : Int32) (H : Heap) (locs : List Loc) (ls : Array Slot), va_P D vwCl (CW ad ca c_states c_transitions c_timerEvent c_from c_event c_next c_variable c_relation c_number c_actions c_kind c_a c_b c_present c_now c_emits c_kept c_ignores c_values c_due c_outputs c_fired c_made c_classes c_size c_taken c_stateClass c_finerClass c_usedBits c_offsets c_owners) H → va_D A (CW ad ca c_states c_transitions c_timerEvent c_from c_event c_next c_variable c_relation c_number c_actions c_kind c_a c_b c_present c_now c_emits c_kept c_ignores c_values c_due c_outputs c_fired c_made c_classes c_size c_taken c_stateClass c_finerClass c_usedBits c_offsets c_owners) → va_S A s.heap H locs → lv_has ls 4 [(0, .ref (ad 3)), (1, .int v1), (2, .int v2)] → X2_layRow_B23 fu c_size c_taken c_usedBits c_offsets c_owners v1 v2 = some o → W p l e rmX2_layRow s m args below meth c H locs 0 0 Z (F0 m 23 ls []) := by
    intro v2 H locs ls hP hD hS hl hf
    unfold X2_layRow_B23 at hf
    refine lv_aload_n hx hb dX2_layRow_23 rfl (lv_at hl 0 rfl) ?_
    refine va_get (D := D) (ci := 2) (v := .ref (ad 22)) (C := RX2) (T := TX2) (N := 10) hx hb hts hiX2 hown hK hP 3 rfl rfl 8 (by decide) f35 (fun _ h9 => h9) rfl dX2_layRow_24 ?_
    refine lv_iload_n hx hb dX2_layRow_27 rfl (lv_at hl 1 rfl) ?_
    refine lv_iload_n hx hb dX2_layRow_28 rfl (lv_at hl 2 rfl) ?_
    obtain ⟨hi29, hf⟩ := pr_in hf
    refine va_iast hx hb hK hP hD hS 22 18 rfl rfl hi29 dX2_layRow_29 (fun H locs hP hD hS => ?_)
    have hP : va_P D vwCl (CW ad ca c_states c_transitions c_timerEvent c_from c_event c_next c_variable c_relation c_number c_actions c_kind c_a c_b c_present c_now c_emits c_kept c_ignores c_values c_due c_outputs c_fired c_made c_classes c_size c_taken c_stateClass c_finerClass c_usedBits (upd c_offsets v1.toNatClampNeg v2) c_owners) H := hP
    have hD : va_D A (CW ad ca c_states c_transitions c_timerEvent c_from c_event c_next c_variable c_relation c_number c_actions c_kind c_a c_b c_present c_now c_emits c_kept c_ignores c_values c_due c_outputs c_fired c_made c_classes c_size c_taken c_stateClass c_finerClass c_usedBits (upd c_offsets v1.toNatClampNeg v2) c_owners) := hD
    refine lv_iconst (v := (0 : Int32)) hx hb dX2_layRow_30 (by decide) ?_
    refine lv_istore_n (lv' := [(3, .int (0 : Int32)), (0, .ref (ad 3)), (1, .int v1), (2, .int v2)]) hx hb dX2_layRow_31 rfl hl (by decide) rfl (fun ls hl => ?_)
    exact L32 fu c_size c_taken (upd c_offsets v1.toNatClampNeg v2) c_owners v2 (0 : Int32) H locs ls hP hD hS (lv_sub hl [1, 2, 3, 0] rfl) hf
  have L2 : ∀ n2 : Nat, ∀ (v2 : Int32) (H : Heap) (locs : List Loc) (ls : Array Slot), va_P D vwCl (CW ad ca c_states c_transitions c_timerEvent c_from c_event c_next c_variable c_relation c_number c_actions c_kind c_a c_b c_present c_now c_emits c_kept c_ignores c_values c_due c_outputs c_fired c_made c_classes c_size c_taken c_stateClass c_finerClass c_usedBits c_offsets c_owners) H → va_D A (CW ad ca c_states c_transitions c_timerEvent c_from c_event c_next c_variable c_relation c_number c_actions c_kind c_a c_b c_present c_now c_emits c_kept c_ignores c_values c_due c_outputs c_fired c_made c_classes c_size c_taken c_stateClass c_finerClass c_usedBits c_offsets c_owners) → va_S A s.heap H locs → lv_has ls 4 [(0, .ref (ad 3)), (1, .int v1), (2, .int v2)] → X2_layRow_L2 fu c_size c_taken c_usedBits c_offsets c_owners v1 n2 v2 = some o → W p l e rmX2_layRow s m args below meth c H locs 0 0 Z (F0 m 2 ls []) := by
    intro n2
    induction n2 with
    | zero =>
      intro v2 H locs ls hP hD hS hl hf
      exact pr_n hf
    | succ n2 ih2 =>
      intro v2 H locs ls hP hD hS hl hf
      replace hf : X2_layRow_B2 fu c_size c_taken c_usedBits c_offsets c_owners v1 (X2_layRow_L2 fu c_size c_taken c_usedBits c_offsets c_owners v1  n2) v2 = some o := hf
      unfold X2_layRow_B2 at hf
      refine lv_iload_n hx hb dX2_layRow_2 rfl (lv_at hl 2 rfl) ?_
      refine lv_bipush (v := (88 : Int32)) hx hb dX2_layRow_3 (by decide) ?_
      refine lv_icmp_ge (tgt := 23) hx hb dX2_layRow_5 (by decide) (fun hc => ?_) (fun hc => ?_)
      · have hf := pr_t hf hc
        exact B23 v2 H locs ls hP hD hS (lv_sub hl [0, 1, 2] rfl) hf
      · have hf := pr_f hf hc
        refine lv_aload_n hx hb dX2_layRow_8 rfl (lv_at hl 0 rfl) ?_
        refine lv_iload_n hx hb dX2_layRow_9 rfl (lv_at hl 1 rfl) ?_
        refine lv_iload_n hx hb dX2_layRow_10 rfl (lv_at hl 2 rfl) ?_
        obtain ⟨x11, hg11, hf⟩ := pr_b hf
        refine pw_cViW (b := ad 3) (As := [.int v1, .int v2]) (rest := []) ⟨hx, hb, hml, hown, hts⟩ (c_X2_isFree fu (D := D) c_states c_transitions c_timerEvent c_from c_event c_next c_variable c_relation c_number c_actions c_kind c_a c_b c_present c_now c_emits c_kept c_ignores c_values c_due c_outputs c_fired c_made c_classes c_size c_taken c_stateClass c_finerClass c_usedBits c_offsets c_owners v1 v2 hg11) (cwV 2 hts gX2_layRow_X2_isFree rfl rfl rfl (by decide +kernel) ⟨Nat.le_of_ble_eq_true rfl, Nat.le_of_ble_eq_true rfl⟩) 3 2 rfl rfl hK hP hD hS hA rfl hl.1 rfl (Nat.le_of_ble_eq_true rfl) dX2_layRow_11 ⟨Nat.le_of_ble_eq_true rfl, Nat.le_of_ble_eq_true rfl⟩ (fun H locs hP hD hS => ?_)
        refine lv_if_ne (tgt := 23) hx hb dX2_layRow_14 (by decide) (fun hc => ?_) (fun hc => ?_)
        · have hf := pr_f hf hc
          exact B23 v2 H locs ls hP hD hS (lv_sub hl [0, 1, 2] rfl) hf
        · have hf := pr_t hf hc
          refine lv_iinc (v := (v2 + (1 : Int32))) (lv' := [(2, .int (v2 + (1 : Int32))), (0, .ref (ad 3)), (1, .int v1)]) hx hb dX2_layRow_17 hl (k := 2) rfl rfl (by decide) rfl (fun ls hl => ?_)
          refine lv_goto (tgt := 2) hx hb dX2_layRow_20 (by decide) ?_
          exact ih2 (v2 + (1 : Int32)) H locs ls hP hD hS (lv_sub hl [1, 2, 0] rfl) hf
  unfold X2_layRow at hf
  refine lv_iconst (v := (0 : Int32)) hx hb dX2_layRow_0 (by decide) ?_
  refine lv_istore_n (lv' := [(2, .int (0 : Int32)), (0, .ref (ad 3)), (1, .int v1)]) hx hb dX2_layRow_1 rfl hl (by decide) rfl (fun ls hl => ?_)
  exact L2 fu (0 : Int32) H locs ls hP hD hS (lv_sub hl [1, 2, 0] rfl) hf
abbrev rmX2_layRows : Room := { frames := 3, cells := 0, slots := 0, locals := 68 }
set_option maxHeartbeats 4000000 in
set_option maxRecDepth 100000 in
theorem c_X2_layRows {l : Launch} {D : va_G} {ad : Nat → Nat} {ca : Nat → ClassId} (fu : Nat) (c_states c_transitions : Int32) (c_timerEvent c_from c_event c_next c_variable c_relation c_number c_actions c_kind c_a c_b : Nat → Int32) (c_present : Int32) (c_now : Int64) (c_emits c_kept c_ignores : Int32) (c_values : Nat → Int32) (c_due : Nat → Int64) (c_outputs c_fired : Nat → Int32) (c_made c_classes c_size c_taken : Int32) (c_stateClass c_finerClass c_usedBits c_offsets c_owners : Nat → Int32) {o : Int32 × Int32 × (Nat → Int32) × (Nat → Int32)} (hf : X2_layRows fu c_classes c_size c_taken c_usedBits c_offsets c_owners = some o) : Cv l yX2_layRows wsX2_layRows rmX2_layRows D (CT ca) (CW ad ca c_states c_transitions c_timerEvent c_from c_event c_next c_variable c_relation c_number c_actions c_kind c_a c_b c_present c_now c_emits c_kept c_ignores c_values c_due c_outputs c_fired c_made c_classes c_size c_taken c_stateClass c_finerClass c_usedBits c_offsets c_owners) [.ref (ad 3)] (CW ad ca c_states c_transitions c_timerEvent c_from c_event c_next c_variable c_relation c_number c_actions c_kind c_a c_b c_present c_now c_emits c_kept c_ignores c_values c_due c_outputs c_fired c_made c_classes o.1 o.2.1 c_stateClass c_finerClass c_usedBits o.2.2.1 o.2.2.2) := by
  intro sz
  refine pw_entry (Qc := fun A => pw_Qv D (CT ca) (CW ad ca c_states c_transitions c_timerEvent c_from c_event c_next c_variable c_relation c_number c_actions c_kind c_a c_b c_present c_now c_emits c_kept c_ignores c_values c_due c_outputs c_fired c_made c_classes o.1 o.2.1 c_stateClass c_finerClass c_usedBits o.2.2.1 o.2.2.2) A) (cc := cX2_layRows) (maxL := 3) (ret := none) (by decide) rfl (Nat.le_of_ble_eq_true rfl) ?_ sz
  intro p e s m args below meth c A ls Z H locs hx hb hr hlocks hts hown hml hnm hK hP hD hS hA hl hZ
  have hown : s.vm.findClass RX2 = some m.cls := hown
  have hiX2 : ∀ w ∈ u_ws RX2 TX2 10, w ∈ wsX2_layRows := by decide +kernel
  have f15 := hts (.fieldLink RX2 15 "ProtocolMachine$Table" "classes" "I") (by decide +kernel)
  have f19 := hts (.fieldLink RX2 19 "ProtocolMachine$Table" "size" "I") (by decide +kernel)
  have f22 := hts (.fieldLink RX2 22 "ProtocolMachine$Table" "taken" "I") (by decide +kernel)
  have f38 := hts (.fieldLink RX2 38 "ProtocolMachine$Table" "owners" "[I") (by decide +kernel)
  have hl : lv_has ls 3 [(0, .ref (ad 3))] := hl
  have L21 : ∀ n21 : Nat, ∀ (c_size c_taken : Int32) (c_offsets c_owners : Nat → Int32) (v1 : Int32) (H : Heap) (locs : List Loc) (ls : Array Slot), va_P D vwCl (CW ad ca c_states c_transitions c_timerEvent c_from c_event c_next c_variable c_relation c_number c_actions c_kind c_a c_b c_present c_now c_emits c_kept c_ignores c_values c_due c_outputs c_fired c_made c_classes c_size c_taken c_stateClass c_finerClass c_usedBits c_offsets c_owners) H → va_D A (CW ad ca c_states c_transitions c_timerEvent c_from c_event c_next c_variable c_relation c_number c_actions c_kind c_a c_b c_present c_now c_emits c_kept c_ignores c_values c_due c_outputs c_fired c_made c_classes c_size c_taken c_stateClass c_finerClass c_usedBits c_offsets c_owners) → va_S A s.heap H locs → lv_has ls 3 [(0, .ref (ad 3)), (1, .int v1)] → X2_layRows_L21 fu c_classes c_usedBits n21 c_size c_taken c_offsets c_owners v1 = some o → W p l e rmX2_layRows s m args below meth c H locs 0 0 Z (F0 m 21 ls []) := by
    intro n21
    induction n21 with
    | zero =>
      intro c_size c_taken c_offsets c_owners v1 H locs ls hP hD hS hl hf
      exact pr_n hf
    | succ n21 ih21 =>
      have L27 : ∀ n27 : Nat, ∀ (c_size c_taken : Int32) (c_offsets c_owners : Nat → Int32) (v1 v2 : Int32) (H : Heap) (locs : List Loc) (ls : Array Slot), va_P D vwCl (CW ad ca c_states c_transitions c_timerEvent c_from c_event c_next c_variable c_relation c_number c_actions c_kind c_a c_b c_present c_now c_emits c_kept c_ignores c_values c_due c_outputs c_fired c_made c_classes c_size c_taken c_stateClass c_finerClass c_usedBits c_offsets c_owners) H → va_D A (CW ad ca c_states c_transitions c_timerEvent c_from c_event c_next c_variable c_relation c_number c_actions c_kind c_a c_b c_present c_now c_emits c_kept c_ignores c_values c_due c_outputs c_fired c_made c_classes c_size c_taken c_stateClass c_finerClass c_usedBits c_offsets c_owners) → va_S A s.heap H locs → lv_has ls 3 [(0, .ref (ad 3)), (1, .int v1), (2, .int v2)] → X2_layRows_L27 fu c_classes c_usedBits (X2_layRows_L21 fu c_classes c_usedBits n21) n27 c_size c_taken c_offsets c_owners v1 v2 = some o → W p l e rmX2_layRows s m args below meth c H locs 0 0 Z (F0 m 27 ls []) := by
        intro n27
        induction n27 with
        | zero =>
          intro c_size c_taken c_offsets c_owners v1 v2 H locs ls hP hD hS hl hf
          exact pr_n hf
        | succ n27 ih27 =>
          intro c_size c_taken c_offsets c_owners v1 v2 H locs ls hP hD hS hl hf
          replace hf : X2_layRows_B27 fu c_classes c_usedBits (X2_layRows_L21 fu c_classes c_usedBits  n21) (X2_layRows_L27 fu c_classes c_usedBits (X2_layRows_L21 fu c_classes c_usedBits  n21) n27) c_size c_taken c_offsets c_owners v1 v2 = some o := hf
          unfold X2_layRows_B27 at hf
          refine lv_iload_n hx hb dX2_layRows_27 rfl (lv_at hl 2 rfl) ?_
          refine lv_aload_n hx hb dX2_layRows_28 rfl (lv_at hl 0 rfl) ?_
          refine va_get (D := D) (ci := 2) (v := .int c_classes) (C := RX2) (T := TX2) (N := 10) hx hb hts hiX2 hown hK hP 3 rfl rfl 2 (by decide) f15 (fun _ h9 => h9) rfl dX2_layRows_29 ?_
          refine lv_icmp_ge (tgt := 55) hx hb dX2_layRows_32 (by decide) (fun hc => ?_) (fun hc => ?_)
          · have hf := pr_t hf hc
            refine lv_iinc (v := (v1 + (-1 : Int32))) (lv' := [(1, .int (v1 + (-1 : Int32))), (0, .ref (ad 3)), (2, .int v2)]) hx hb dX2_layRows_55 hl (k := 1) rfl rfl (by decide) rfl (fun ls hl => ?_)
            refine lv_goto (tgt := 21) hx hb dX2_layRows_58 (by decide) ?_
            exact ih21 c_size c_taken c_offsets c_owners (v1 + (-1 : Int32)) H locs ls hP hD hS (lv_sub hl [1, 0] rfl) hf
          · have hf := pr_f hf hc
            refine lv_aload_n hx hb dX2_layRows_35 rfl (lv_at hl 0 rfl) ?_
            refine lv_iload_n hx hb dX2_layRows_36 rfl (lv_at hl 2 rfl) ?_
            obtain ⟨x37, hg37, hf⟩ := pr_b hf
            refine pw_cViW (b := ad 3) (As := [.int v2]) (rest := []) ⟨hx, hb, hml, hown, hts⟩ (c_X2_usedCells (D := D) c_states c_transitions c_timerEvent c_from c_event c_next c_variable c_relation c_number c_actions c_kind c_a c_b c_present c_now c_emits c_kept c_ignores c_values c_due c_outputs c_fired c_made c_classes c_size c_taken c_stateClass c_finerClass c_usedBits c_offsets c_owners v2 hg37) (cwV 1 hts gX2_layRows_X2_usedCells rfl rfl rfl (by decide +kernel) ⟨Nat.le_of_ble_eq_true rfl, Nat.le_of_ble_eq_true rfl⟩) 3 2 rfl rfl hK hP hD hS hA rfl hl.1 rfl (Nat.le_of_ble_eq_true rfl) dX2_layRows_37 ⟨Nat.le_of_ble_eq_true rfl, Nat.le_of_ble_eq_true rfl⟩ (fun H locs hP hD hS => ?_)
            refine lv_iload_n hx hb dX2_layRows_40 rfl (lv_at hl 1 rfl) ?_
            refine lv_icmp_ne (tgt := 49) hx hb dX2_layRows_41 (by decide) (fun hc => ?_) (fun hc => ?_)
            · have hf := pr_f hf hc
              refine lv_iinc (v := (v2 + (1 : Int32))) (lv' := [(2, .int (v2 + (1 : Int32))), (0, .ref (ad 3)), (1, .int v1)]) hx hb dX2_layRows_49 hl (k := 2) rfl rfl (by decide) rfl (fun ls hl => ?_)
              refine lv_goto (tgt := 27) hx hb dX2_layRows_52 (by decide) ?_
              exact ih27 c_size c_taken c_offsets c_owners v1 (v2 + (1 : Int32)) H locs ls hP hD hS (lv_sub hl [1, 2, 0] rfl) hf
            · have hf := pr_t hf hc
              refine lv_aload_n hx hb dX2_layRows_44 rfl (lv_at hl 0 rfl) ?_
              refine lv_iload_n hx hb dX2_layRows_45 rfl (lv_at hl 2 rfl) ?_
              obtain ⟨x46, hg46, hf⟩ := pr_b hf
              refine pw_cVvW (b := ad 3) (As := [.int v2]) (rest := []) ⟨hx, hb, hml, hown, hts⟩ (c_X2_layRow fu (D := D) c_states c_transitions c_timerEvent c_from c_event c_next c_variable c_relation c_number c_actions c_kind c_a c_b c_present c_now c_emits c_kept c_ignores c_values c_due c_outputs c_fired c_made c_classes c_size c_taken c_stateClass c_finerClass c_usedBits c_offsets c_owners v2 hg46) (cwV 1 hts gX2_layRows_X2_layRow rfl rfl rfl (by decide +kernel) ⟨Nat.le_of_ble_eq_true rfl, Nat.le_of_ble_eq_true rfl⟩) 3 2 rfl rfl hK hP hD hS hA rfl hl.1 rfl (Nat.le_of_ble_eq_true rfl) dX2_layRows_46 ⟨Nat.le_of_ble_eq_true rfl, Nat.le_of_ble_eq_true rfl⟩ (fun H locs hP hD hS => ?_)
              have hP : va_P D vwCl (CW ad ca c_states c_transitions c_timerEvent c_from c_event c_next c_variable c_relation c_number c_actions c_kind c_a c_b c_present c_now c_emits c_kept c_ignores c_values c_due c_outputs c_fired c_made c_classes x46.1 x46.2.1 c_stateClass c_finerClass c_usedBits x46.2.2.1 x46.2.2.2) H := hP
              have hD : va_D A (CW ad ca c_states c_transitions c_timerEvent c_from c_event c_next c_variable c_relation c_number c_actions c_kind c_a c_b c_present c_now c_emits c_kept c_ignores c_values c_due c_outputs c_fired c_made c_classes x46.1 x46.2.1 c_stateClass c_finerClass c_usedBits x46.2.2.1 x46.2.2.2) := hD
              refine lv_iinc (v := (v2 + (1 : Int32))) (lv' := [(2, .int (v2 + (1 : Int32))), (0, .ref (ad 3)), (1, .int v1)]) hx hb dX2_layRows_49 hl (k := 2) rfl rfl (by decide) rfl (fun ls hl => ?_)
              refine lv_goto (tgt := 27) hx hb dX2_layRows_52 (by decide) ?_
              exact ih27 x46.1 x46.2.1 x46.2.2.1 x46.2.2.2 v1 (v2 + (1 : Int32)) H locs ls hP hD hS (lv_sub hl [1, 2, 0] rfl) hf
      intro c_size c_taken c_offsets c_owners v1 H locs ls hP hD hS hl hf
      replace hf : X2_layRows_B21 fu c_classes c_usedBits (X2_layRows_L21 fu c_classes c_usedBits  n21) c_size c_taken c_offsets c_owners v1 = some o := hf
      unfold X2_layRows_B21 at hf
      refine lv_iload_n hx hb dX2_layRows_21 rfl (lv_at hl 1 rfl) ?_
      refine lv_if_lt (tgt := 61) hx hb dX2_layRows_22 (by decide) (fun hc => ?_) (fun hc => ?_)
      · have hf := pr_t hf hc
        obtain rfl := Option.some.inj hf
        subst hZ
        exact pw_rv hx hb hr hlocks hK hP hD hS (Nat.le_of_ble_eq_true rfl) (Nat.le_of_ble_eq_true rfl) dX2_layRows_61
      · have hf := pr_f hf hc
        refine lv_iconst (v := (0 : Int32)) hx hb dX2_layRows_25 (by decide) ?_
        refine lv_istore_n (lv' := [(2, .int (0 : Int32)), (0, .ref (ad 3)), (1, .int v1)]) hx hb dX2_layRows_26 rfl hl (by decide) rfl (fun ls hl => ?_)
        exact L27 fu c_size c_taken c_offsets c_owners v1 (0 : Int32) H locs ls hP hD hS (lv_sub hl [1, 2, 0] rfl) hf
  unfold X2_layRows at hf
  refine lv_aload_n hx hb dX2_layRows_0 rfl (lv_at hl 0 rfl) ?_
  refine va_get (D := D) (ci := 2) (v := .ref (ad 23)) (C := RX2) (T := TX2) (N := 10) hx hb hts hiX2 hown hK hP 3 rfl rfl 9 (by decide) f38 (fun _ h9 => h9) rfl dX2_layRows_1 ?_
  refine lv_iconst (v := (-1 : Int32)) hx hb dX2_layRows_4 (by decide) ?_
  obtain ⟨x5, hg5, hf⟩ := pr_b hf
  have hKc := hK.sub (tys' := [(ca 23, .int)]) [19] rfl
  refine pw_cSvP (As := [.ref (ad 23), .int (-1 : Int32)]) (rest := []) ⟨hx, hb, hml, hown, hts⟩ (c_J7_fill_53178 fu (D := D) 96 (ad 23) (ca 23) c_owners (-1 : Int32) hg5) (va_cwS 2 hts gX2_layRows_J7_fill_53178 rfl rfl rfl (by decide +kernel) ⟨Nat.le_of_ble_eq_true rfl, Nat.le_of_ble_eq_true rfl⟩) hKc hP hD hS hA [23] [0, 1, 2, 3, 4, 5, 6, 7, 8, 9, 10, 11, 12, 13, 14, 15, 16, 17, 18, 19, 20, 21, 22] rfl rfl (by decide) (by decide) (by decide) rfl hl.1 rfl (Nat.le_of_ble_eq_true rfl) dX2_layRows_5 ⟨Nat.le_of_ble_eq_true rfl, Nat.le_of_ble_eq_true rfl⟩ (fun H locs hP hD hS => ?_)
  have hP := hP.sub (ws' := (CW ad ca c_states c_transitions c_timerEvent c_from c_event c_next c_variable c_relation c_number c_actions c_kind c_a c_b c_present c_now c_emits c_kept c_ignores c_values c_due c_outputs c_fired c_made c_classes c_size c_taken c_stateClass c_finerClass c_usedBits c_offsets x5)) [0, 1, 2, 3, 4, 5, 6, 7, 8, 9, 10, 11, 12, 13, 14, 15, 16, 17, 18, 19, 20, 21, 22, 23] rfl
  have hD := hD.sub (ws' := (CW ad ca c_states c_transitions c_timerEvent c_from c_event c_next c_variable c_relation c_number c_actions c_kind c_a c_b c_present c_now c_emits c_kept c_ignores c_values c_due c_outputs c_fired c_made c_classes c_size c_taken c_stateClass c_finerClass c_usedBits c_offsets x5)) [0, 1, 2, 3, 4, 5, 6, 7, 8, 9, 10, 11, 12, 13, 14, 15, 16, 17, 18, 19, 20, 21, 22, 23] (by decide) rfl
  refine lv_aload_n hx hb dX2_layRows_8 rfl (lv_at hl 0 rfl) ?_
  refine lv_iconst (v := (0 : Int32)) hx hb dX2_layRows_9 (by decide) ?_
  refine va_put (D := D) (ci := 2) (v := .int (0 : Int32)) (ty := .int) (C := RX2) (T := TX2) (N := 10) hx hb hts hiX2 tyX2 tyX2_ok nmX2 hown hK hP hD hS 3 rfl rfl 3 (by decide) f19 (fun _ h9 => h9) rfl (by decide +kernel) rfl rfl (Nat.le_of_ble_eq_true rfl) dX2_layRows_10 (fun H locs hP hD hS => ?_)
  have hP : va_P D vwCl (CW ad ca c_states c_transitions c_timerEvent c_from c_event c_next c_variable c_relation c_number c_actions c_kind c_a c_b c_present c_now c_emits c_kept c_ignores c_values c_due c_outputs c_fired c_made c_classes (0 : Int32) c_taken c_stateClass c_finerClass c_usedBits c_offsets x5) H := hP
  have hD : va_D A (CW ad ca c_states c_transitions c_timerEvent c_from c_event c_next c_variable c_relation c_number c_actions c_kind c_a c_b c_present c_now c_emits c_kept c_ignores c_values c_due c_outputs c_fired c_made c_classes (0 : Int32) c_taken c_stateClass c_finerClass c_usedBits c_offsets x5) := hD
  refine lv_aload_n hx hb dX2_layRows_13 rfl (lv_at hl 0 rfl) ?_
  refine lv_iconst (v := (0 : Int32)) hx hb dX2_layRows_14 (by decide) ?_
  refine va_put (D := D) (ci := 2) (v := .int (0 : Int32)) (ty := .int) (C := RX2) (T := TX2) (N := 10) hx hb hts hiX2 tyX2 tyX2_ok nmX2 hown hK hP hD hS 3 rfl rfl 4 (by decide) f22 (fun _ h9 => h9) rfl (by decide +kernel) rfl rfl (Nat.le_of_ble_eq_true rfl) dX2_layRows_15 (fun H locs hP hD hS => ?_)
  have hP : va_P D vwCl (CW ad ca c_states c_transitions c_timerEvent c_from c_event c_next c_variable c_relation c_number c_actions c_kind c_a c_b c_present c_now c_emits c_kept c_ignores c_values c_due c_outputs c_fired c_made c_classes (0 : Int32) (0 : Int32) c_stateClass c_finerClass c_usedBits c_offsets x5) H := hP
  have hD : va_D A (CW ad ca c_states c_transitions c_timerEvent c_from c_event c_next c_variable c_relation c_number c_actions c_kind c_a c_b c_present c_now c_emits c_kept c_ignores c_values c_due c_outputs c_fired c_made c_classes (0 : Int32) (0 : Int32) c_stateClass c_finerClass c_usedBits c_offsets x5) := hD
  refine lv_bipush (v := (8 : Int32)) hx hb dX2_layRows_18 (by decide) ?_
  refine lv_istore_n (lv' := [(1, .int (8 : Int32)), (0, .ref (ad 3))]) hx hb dX2_layRows_20 rfl hl (by decide) rfl (fun ls hl => ?_)
  exact L21 fu (0 : Int32) (0 : Int32) c_offsets x5 (8 : Int32) H locs ls hP hD hS (lv_sub hl [1, 0] rfl) hf
abbrev rmX2_make : Room := { frames := 5, cells := 0, slots := 0, locals := 121 }
set_option maxHeartbeats 4000000 in
set_option maxRecDepth 100000 in
theorem c_X2_make {l : Launch} {D : va_G} {ad : Nat → Nat} {ca : Nat → ClassId} (fu : Nat) (c_states c_transitions : Int32) (c_timerEvent c_from c_event c_next c_variable c_relation c_number c_actions c_kind c_a c_b : Nat → Int32) (c_present : Int32) (c_now : Int64) (c_emits c_kept c_ignores : Int32) (c_values : Nat → Int32) (c_due : Nat → Int64) (c_outputs c_fired : Nat → Int32) (c_made c_classes c_size c_taken : Int32) (c_stateClass c_finerClass c_usedBits c_offsets c_owners : Nat → Int32) {o : Int32 × Int32 × Int32 × Int32 × (Nat → Int32) × (Nat → Int32) × (Nat → Int32) × (Nat → Int32) × (Nat → Int32)} (hf : X2_make fu c_states c_transitions c_from c_event c_next c_variable c_relation c_number c_actions c_kind c_a c_b c_made c_classes c_size c_taken c_stateClass c_finerClass c_usedBits c_offsets c_owners = some o) : Cv l yX2_make wsX2_make rmX2_make D (CT ca) (CW ad ca c_states c_transitions c_timerEvent c_from c_event c_next c_variable c_relation c_number c_actions c_kind c_a c_b c_present c_now c_emits c_kept c_ignores c_values c_due c_outputs c_fired c_made c_classes c_size c_taken c_stateClass c_finerClass c_usedBits c_offsets c_owners) [.ref (ad 3)] (CW ad ca c_states c_transitions c_timerEvent c_from c_event c_next c_variable c_relation c_number c_actions c_kind c_a c_b c_present c_now c_emits c_kept c_ignores c_values c_due c_outputs c_fired o.1 o.2.1 o.2.2.1 o.2.2.2.1 o.2.2.2.2.1 o.2.2.2.2.2.1 o.2.2.2.2.2.2.1 o.2.2.2.2.2.2.2.1 o.2.2.2.2.2.2.2.2) := by
  intro sz
  refine pw_entry (Qc := fun A => pw_Qv D (CT ca) (CW ad ca c_states c_transitions c_timerEvent c_from c_event c_next c_variable c_relation c_number c_actions c_kind c_a c_b c_present c_now c_emits c_kept c_ignores c_values c_due c_outputs c_fired o.1 o.2.1 o.2.2.1 o.2.2.2.1 o.2.2.2.2.1 o.2.2.2.2.2.1 o.2.2.2.2.2.2.1 o.2.2.2.2.2.2.2.1 o.2.2.2.2.2.2.2.2) A) (cc := cX2_make) (maxL := 3) (ret := none) (by decide) rfl (Nat.le_of_ble_eq_true rfl) ?_ sz
  intro p e s m args below meth c A ls Z H locs hx hb hr hlocks hts hown hml hnm hK hP hD hS hA hl hZ
  have hown : s.vm.findClass RX2 = some m.cls := hown
  have hiX2 : ∀ w ∈ u_ws RX2 TX2 10, w ∈ wsX2_make := by decide +kernel
  have f15 := hts (.fieldLink RX2 15 "ProtocolMachine$Table" "classes" "I") (by decide +kernel)
  have f9 := hts (.fieldLink RX2 9 "ProtocolMachine$Table" "made" "Z") (by decide +kernel)
  have hl : lv_has ls 3 [(0, .ref (ad 3))] := hl
  have B46 : ∀ (c_classes : Int32) (c_stateClass c_finerClass : Nat → Int32) (H : Heap) (locs : List Loc) (ls : Array Slot), va_P D vwCl (CW ad ca c_states c_transitions c_timerEvent c_from c_event c_next c_variable c_relation c_number c_actions c_kind c_a c_b c_present c_now c_emits c_kept c_ignores c_values c_due c_outputs c_fired c_made c_classes c_size c_taken c_stateClass c_finerClass c_usedBits c_offsets c_owners) H → va_D A (CW ad ca c_states c_transitions c_timerEvent c_from c_event c_next c_variable c_relation c_number c_actions c_kind c_a c_b c_present c_now c_emits c_kept c_ignores c_values c_due c_outputs c_fired c_made c_classes c_size c_taken c_stateClass c_finerClass c_usedBits c_offsets c_owners) → va_S A s.heap H locs → lv_has ls 3 [(0, .ref (ad 3))] → X2_make_B46 fu c_transitions c_from c_event c_size c_taken c_usedBits c_offsets c_owners c_classes c_stateClass c_finerClass = some o → W p l e rmX2_make s m args below meth c H locs 0 0 Z (F0 m 46 ls []) := by
    intro c_classes c_stateClass c_finerClass H locs ls hP hD hS hl hf
    unfold X2_make_B46 at hf
    refine lv_aload_n hx hb dX2_make_46 rfl (lv_at hl 0 rfl) ?_
    obtain ⟨x47, hg47, hf⟩ := pr_b hf
    refine pw_cVvW (b := ad 3) (As := []) (rest := []) ⟨hx, hb, hml, hown, hts⟩ (c_X2_findUsedCells fu (D := D) c_states c_transitions c_timerEvent c_from c_event c_next c_variable c_relation c_number c_actions c_kind c_a c_b c_present c_now c_emits c_kept c_ignores c_values c_due c_outputs c_fired c_made c_classes c_size c_taken c_stateClass c_finerClass c_usedBits c_offsets c_owners  hg47) (cwV 0 hts gX2_make_X2_findUsedCells rfl rfl rfl (by decide +kernel) ⟨Nat.le_of_ble_eq_true rfl, Nat.le_of_ble_eq_true rfl⟩) 3 2 rfl rfl hK hP hD hS hA rfl hl.1 rfl (Nat.le_of_ble_eq_true rfl) dX2_make_47 ⟨Nat.le_of_ble_eq_true rfl, Nat.le_of_ble_eq_true rfl⟩ (fun H locs hP hD hS => ?_)
    have hP : va_P D vwCl (CW ad ca c_states c_transitions c_timerEvent c_from c_event c_next c_variable c_relation c_number c_actions c_kind c_a c_b c_present c_now c_emits c_kept c_ignores c_values c_due c_outputs c_fired c_made c_classes c_size c_taken c_stateClass c_finerClass x47 c_offsets c_owners) H := hP
    have hD : va_D A (CW ad ca c_states c_transitions c_timerEvent c_from c_event c_next c_variable c_relation c_number c_actions c_kind c_a c_b c_present c_now c_emits c_kept c_ignores c_values c_due c_outputs c_fired c_made c_classes c_size c_taken c_stateClass c_finerClass x47 c_offsets c_owners) := hD
    refine lv_aload_n hx hb dX2_make_50 rfl (lv_at hl 0 rfl) ?_
    obtain ⟨x51, hg51, hf⟩ := pr_b hf
    refine pw_cVvW (b := ad 3) (As := []) (rest := []) ⟨hx, hb, hml, hown, hts⟩ (c_X2_layRows fu (D := D) c_states c_transitions c_timerEvent c_from c_event c_next c_variable c_relation c_number c_actions c_kind c_a c_b c_present c_now c_emits c_kept c_ignores c_values c_due c_outputs c_fired c_made c_classes c_size c_taken c_stateClass c_finerClass x47 c_offsets c_owners  hg51) (cwV 0 hts gX2_make_X2_layRows rfl rfl rfl (by decide +kernel) ⟨Nat.le_of_ble_eq_true rfl, Nat.le_of_ble_eq_true rfl⟩) 3 2 rfl rfl hK hP hD hS hA rfl hl.1 rfl (Nat.le_of_ble_eq_true rfl) dX2_make_51 ⟨Nat.le_of_ble_eq_true rfl, Nat.le_of_ble_eq_true rfl⟩ (fun H locs hP hD hS => ?_)
    have hP : va_P D vwCl (CW ad ca c_states c_transitions c_timerEvent c_from c_event c_next c_variable c_relation c_number c_actions c_kind c_a c_b c_present c_now c_emits c_kept c_ignores c_values c_due c_outputs c_fired c_made c_classes x51.1 x51.2.1 c_stateClass c_finerClass x47 x51.2.2.1 x51.2.2.2) H := hP
    have hD : va_D A (CW ad ca c_states c_transitions c_timerEvent c_from c_event c_next c_variable c_relation c_number c_actions c_kind c_a c_b c_present c_now c_emits c_kept c_ignores c_values c_due c_outputs c_fired c_made c_classes x51.1 x51.2.1 c_stateClass c_finerClass x47 x51.2.2.1 x51.2.2.2) := hD
    refine lv_aload_n hx hb dX2_make_54 rfl (lv_at hl 0 rfl) ?_
    refine lv_iconst (v := (1 : Int32)) hx hb dX2_make_55 (by decide) ?_
    refine va_put (D := D) (ci := 2) (v := .int (1 : Int32)) (ty := .boolean) (C := RX2) (T := TX2) (N := 10) hx hb hts hiX2 tyX2 tyX2_ok nmX2 hown hK hP hD hS 3 rfl rfl 1 (by decide) f9 (fun _ h9 => h9) rfl (by decide +kernel) rfl rfl (Nat.le_of_ble_eq_true rfl) dX2_make_56 (fun H locs hP hD hS => ?_)
    have hP : va_P D vwCl (CW ad ca c_states c_transitions c_timerEvent c_from c_event c_next c_variable c_relation c_number c_actions c_kind c_a c_b c_present c_now c_emits c_kept c_ignores c_values c_due c_outputs c_fired (1 : Int32) c_classes x51.1 x51.2.1 c_stateClass c_finerClass x47 x51.2.2.1 x51.2.2.2) H := hP
    have hD : va_D A (CW ad ca c_states c_transitions c_timerEvent c_from c_event c_next c_variable c_relation c_number c_actions c_kind c_a c_b c_present c_now c_emits c_kept c_ignores c_values c_due c_outputs c_fired (1 : Int32) c_classes x51.1 x51.2.1 c_stateClass c_finerClass x47 x51.2.2.1 x51.2.2.2) := hD
    obtain rfl := Option.some.inj hf
    subst hZ
    exact pw_rv hx hb hr hlocks hK hP hD hS (Nat.le_of_ble_eq_true rfl) (Nat.le_of_ble_eq_true rfl) dX2_make_59
  have L13 : ∀ n13 : Nat, ∀ (c_classes : Int32) (c_stateClass c_finerClass : Nat → Int32) (v1 v2 : Int32) (H : Heap) (locs : List Loc) (ls : Array Slot), va_P D vwCl (CW ad ca c_states c_transitions c_timerEvent c_from c_event c_next c_variable c_relation c_number c_actions c_kind c_a c_b c_present c_now c_emits c_kept c_ignores c_values c_due c_outputs c_fired c_made c_classes c_size c_taken c_stateClass c_finerClass c_usedBits c_offsets c_owners) H → va_D A (CW ad ca c_states c_transitions c_timerEvent c_from c_event c_next c_variable c_relation c_number c_actions c_kind c_a c_b c_present c_now c_emits c_kept c_ignores c_values c_due c_outputs c_fired c_made c_classes c_size c_taken c_stateClass c_finerClass c_usedBits c_offsets c_owners) → va_S A s.heap H locs → lv_has ls 3 [(0, .ref (ad 3)), (1, .int v1), (2, .int v2)] → X2_make_L13 fu c_states c_transitions c_from c_event c_next c_variable c_relation c_number c_actions c_kind c_a c_b c_size c_taken c_usedBits c_offsets c_owners n13 c_classes c_stateClass c_finerClass v1 v2 = some o → W p l e rmX2_make s m args below meth c H locs 0 0 Z (F0 m 13 ls []) := by
    intro n13
    induction n13 with
    | zero =>
      intro c_classes c_stateClass c_finerClass v1 v2 H locs ls hP hD hS hl hf
      exact pr_n hf
    | succ n13 ih13 =>
      intro c_classes c_stateClass c_finerClass v1 v2 H locs ls hP hD hS hl hf
      replace hf : X2_make_B13 fu c_states c_transitions c_from c_event c_next c_variable c_relation c_number c_actions c_kind c_a c_b c_size c_taken c_usedBits c_offsets c_owners (X2_make_L13 fu c_states c_transitions c_from c_event c_next c_variable c_relation c_number c_actions c_kind c_a c_b c_size c_taken c_usedBits c_offsets c_owners  n13) c_classes c_stateClass c_finerClass v1 v2 = some o := hf
      unfold X2_make_B13 at hf
      refine lv_iload_n hx hb dX2_make_13 rfl (lv_at hl 2 rfl) ?_
      refine lv_bipush (v := (12 : Int32)) hx hb dX2_make_14 (by decide) ?_
      refine lv_icmp_ge (tgt := 46) hx hb dX2_make_16 (by decide) (fun hc => ?_) (fun hc => ?_)
      · have hf := pr_t hf hc
        exact B46 c_classes c_stateClass c_finerClass H locs ls hP hD hS (lv_sub hl [0] rfl) hf
      · have hf := pr_f hf hc
        refine lv_aload_n hx hb dX2_make_19 rfl (lv_at hl 0 rfl) ?_
        refine va_get (D := D) (ci := 2) (v := .int c_classes) (C := RX2) (T := TX2) (N := 10) hx hb hts hiX2 hown hK hP 3 rfl rfl 2 (by decide) f15 (fun _ h9 => h9) rfl dX2_make_20 ?_
        refine lv_iload_n hx hb dX2_make_23 rfl (lv_at hl 1 rfl) ?_
        refine lv_icmp_eq (tgt := 46) hx hb dX2_make_24 (by decide) (fun hc => ?_) (fun hc => ?_)
        · have hf := pr_t hf hc
          exact B46 c_classes c_stateClass c_finerClass H locs ls hP hD hS (lv_sub hl [0] rfl) hf
        · have hf := pr_f hf hc
          refine lv_aload_n hx hb dX2_make_27 rfl (lv_at hl 0 rfl) ?_
          refine va_get (D := D) (ci := 2) (v := .int c_classes) (C := RX2) (T := TX2) (N := 10) hx hb hts hiX2 hown hK hP 3 rfl rfl 2 (by decide) f15 (fun _ h9 => h9) rfl dX2_make_28 ?_
          refine lv_istore_n (lv' := [(1, .int c_classes), (0, .ref (ad 3)), (2, .int v2)]) hx hb dX2_make_31 rfl hl (by decide) rfl (fun ls hl => ?_)
          refine lv_aload_n hx hb dX2_make_32 rfl (lv_at hl 1 rfl) ?_
          refine lv_aload_n hx hb dX2_make_33 rfl (lv_at hl 1 rfl) ?_
          obtain ⟨x34, hg34, hf⟩ := pr_b hf
          refine pw_cViW (b := ad 3) (As := []) (rest := [.ref (ad 3)]) ⟨hx, hb, hml, hown, hts⟩ (c_X2_splitOnce fu (D := D) c_states c_transitions c_timerEvent c_from c_event c_next c_variable c_relation c_number c_actions c_kind c_a c_b c_present c_now c_emits c_kept c_ignores c_values c_due c_outputs c_fired c_made c_classes c_size c_taken c_stateClass c_finerClass c_usedBits c_offsets c_owners  hg34) (cwV 0 hts gX2_make_X2_splitOnce rfl rfl rfl (by decide +kernel) ⟨Nat.le_of_ble_eq_true rfl, Nat.le_of_ble_eq_true rfl⟩) 3 2 rfl rfl hK hP hD hS hA rfl hl.1 rfl (Nat.le_of_ble_eq_true rfl) dX2_make_34 ⟨Nat.le_of_ble_eq_true rfl, Nat.le_of_ble_eq_true rfl⟩ (fun H locs hP hD hS => ?_)
          have hP : va_P D vwCl (CW ad ca c_states c_transitions c_timerEvent c_from c_event c_next c_variable c_relation c_number c_actions c_kind c_a c_b c_present c_now c_emits c_kept c_ignores c_values c_due c_outputs c_fired c_made c_classes c_size c_taken x34.2.1 x34.2.2 c_usedBits c_offsets c_owners) H := hP
          have hD : va_D A (CW ad ca c_states c_transitions c_timerEvent c_from c_event c_next c_variable c_relation c_number c_actions c_kind c_a c_b c_present c_now c_emits c_kept c_ignores c_values c_due c_outputs c_fired c_made c_classes c_size c_taken x34.2.1 x34.2.2 c_usedBits c_offsets c_owners) := hD
          refine va_put (D := D) (ci := 2) (v := .int x34.1) (ty := .int) (C := RX2) (T := TX2) (N := 10) hx hb hts hiX2 tyX2 tyX2_ok nmX2 hown hK hP hD hS 3 rfl rfl 2 (by decide) f15 (fun _ h9 => h9) rfl (by decide +kernel) rfl rfl (Nat.le_of_ble_eq_true rfl) dX2_make_37 (fun H locs hP hD hS => ?_)
          have hP : va_P D vwCl (CW ad ca c_states c_transitions c_timerEvent c_from c_event c_next c_variable c_relation c_number c_actions c_kind c_a c_b c_present c_now c_emits c_kept c_ignores c_values c_due c_outputs c_fired c_made x34.1 c_size c_taken x34.2.1 x34.2.2 c_usedBits c_offsets c_owners) H := hP
          have hD : va_D A (CW ad ca c_states c_transitions c_timerEvent c_from c_event c_next c_variable c_relation c_number c_actions c_kind c_a c_b c_present c_now c_emits c_kept c_ignores c_values c_due c_outputs c_fired c_made x34.1 c_size c_taken x34.2.1 x34.2.2 c_usedBits c_offsets c_owners) := hD
          refine lv_iinc (v := (v2 + (1 : Int32))) (lv' := [(2, .int (v2 + (1 : Int32))), (1, .int c_classes), (0, .ref (ad 3))]) hx hb dX2_make_40 hl (k := 2) rfl rfl (by decide) rfl (fun ls hl => ?_)
          refine lv_goto (tgt := 13) hx hb dX2_make_43 (by decide) ?_
          exact ih13 x34.1 x34.2.1 x34.2.2 c_classes (v2 + (1 : Int32)) H locs ls hP hD hS (lv_sub hl [2, 1, 0] rfl) hf
  unfold X2_make at hf
  refine lv_aload_n hx hb dX2_make_0 rfl (lv_at hl 0 rfl) ?_
  obtain ⟨x1, hg1, hf⟩ := pr_b hf
  refine pw_cVvW (b := ad 3) (As := []) (rest := []) ⟨hx, hb, hml, hown, hts⟩ (c_X2_putReachedIntoOneClass fu (D := D) c_states c_transitions c_timerEvent c_from c_event c_next c_variable c_relation c_number c_actions c_kind c_a c_b c_present c_now c_emits c_kept c_ignores c_values c_due c_outputs c_fired c_made c_classes c_size c_taken c_stateClass c_finerClass c_usedBits c_offsets c_owners  hg1) (cwV 0 hts gX2_make_X2_putReachedIntoOneClass rfl rfl rfl (by decide +kernel) ⟨Nat.le_of_ble_eq_true rfl, Nat.le_of_ble_eq_true rfl⟩) 3 2 rfl rfl hK hP hD hS hA rfl hl.1 rfl (Nat.le_of_ble_eq_true rfl) dX2_make_1 ⟨Nat.le_of_ble_eq_true rfl, Nat.le_of_ble_eq_true rfl⟩ (fun H locs hP hD hS => ?_)
  have hP : va_P D vwCl (CW ad ca c_states c_transitions c_timerEvent c_from c_event c_next c_variable c_relation c_number c_actions c_kind c_a c_b c_present c_now c_emits c_kept c_ignores c_values c_due c_outputs c_fired c_made c_classes c_size c_taken x1 c_finerClass c_usedBits c_offsets c_owners) H := hP
  have hD : va_D A (CW ad ca c_states c_transitions c_timerEvent c_from c_event c_next c_variable c_relation c_number c_actions c_kind c_a c_b c_present c_now c_emits c_kept c_ignores c_values c_due c_outputs c_fired c_made c_classes c_size c_taken x1 c_finerClass c_usedBits c_offsets c_owners) := hD
  refine lv_iconst (v := (0 : Int32)) hx hb dX2_make_4 (by decide) ?_
  refine lv_istore_n (lv' := [(1, .int (0 : Int32)), (0, .ref (ad 3))]) hx hb dX2_make_5 rfl hl (by decide) rfl (fun ls hl => ?_)
  refine lv_aload_n hx hb dX2_make_6 rfl (lv_at hl 1 rfl) ?_
  refine lv_iconst (v := (1 : Int32)) hx hb dX2_make_7 (by decide) ?_
  refine va_put (D := D) (ci := 2) (v := .int (1 : Int32)) (ty := .int) (C := RX2) (T := TX2) (N := 10) hx hb hts hiX2 tyX2 tyX2_ok nmX2 hown hK hP hD hS 3 rfl rfl 2 (by decide) f15 (fun _ h9 => h9) rfl (by decide +kernel) rfl rfl (Nat.le_of_ble_eq_true rfl) dX2_make_8 (fun H locs hP hD hS => ?_)
  have hP : va_P D vwCl (CW ad ca c_states c_transitions c_timerEvent c_from c_event c_next c_variable c_relation c_number c_actions c_kind c_a c_b c_present c_now c_emits c_kept c_ignores c_values c_due c_outputs c_fired c_made (1 : Int32) c_size c_taken x1 c_finerClass c_usedBits c_offsets c_owners) H := hP
  have hD : va_D A (CW ad ca c_states c_transitions c_timerEvent c_from c_event c_next c_variable c_relation c_number c_actions c_kind c_a c_b c_present c_now c_emits c_kept c_ignores c_values c_due c_outputs c_fired c_made (1 : Int32) c_size c_taken x1 c_finerClass c_usedBits c_offsets c_owners) := hD
  refine lv_iconst (v := (0 : Int32)) hx hb dX2_make_11 (by decide) ?_
  refine lv_istore_n (lv' := [(2, .int (0 : Int32)), (1, .int (0 : Int32)), (0, .ref (ad 3))]) hx hb dX2_make_12 rfl hl (by decide) rfl (fun ls hl => ?_)
  exact L13 fu (1 : Int32) x1 c_finerClass (0 : Int32) (0 : Int32) H locs ls hP hD hS (lv_sub hl [2, 1, 0] rfl) hf
