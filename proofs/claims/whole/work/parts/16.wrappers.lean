abbrev rmL_addState : Room := { frames := 7, cells := 1, slots := 6, locals := 110 }
set_option maxHeartbeats 4000000 in
set_option maxRecDepth 100000 in
theorem c_L_addState {l : Launch} {D : va_G} {ad : Nat → Nat} {ca : Nat → ClassId} {oq : Nat} {oc : ClassId} (hst : l.stackTraces = false) (c_states c_transitions : Int32) (c_timerEvent c_from c_event c_next c_variable c_relation c_number c_actions c_kind c_a c_b : Nat → Int32) (c_present : Int32) (c_now : Int64) (c_emits c_kept c_ignores : Int32) (c_values : Nat → Int32) (c_due : Nat → Int64) (c_outputs c_fired : Nat → Int32) (c_made c_classes c_size c_taken : Int32) (c_stateClass c_finerClass c_usedBits c_offsets c_owners : Nat → Int32) (l_out : Nat → Int64) {o : Int32 × Int32 × Int32 × (Nat → Int64)} (hf : L_addState c_states c_made l_out = some o) : Li l yL_addState wsL_addState rmL_addState D (CT ca ++ (OT oc)) (CW ad ca c_states c_transitions c_timerEvent c_from c_event c_next c_variable c_relation c_number c_actions c_kind c_a c_b c_present c_now c_emits c_kept c_ignores c_values c_due c_outputs c_fired c_made c_classes c_size c_taken c_stateClass c_finerClass c_usedBits c_offsets c_owners ++ (OW oq oc l_out)) [.ref (ad 0), .ref oq] o.1 (CW ad ca o.2.1 c_transitions c_timerEvent c_from c_event c_next c_variable c_relation c_number c_actions c_kind c_a c_b c_present c_now c_emits c_kept c_ignores c_values c_due c_outputs c_fired o.2.2.1 c_classes c_size c_taken c_stateClass c_finerClass c_usedBits c_offsets c_owners ++ (OW oq oc o.2.2.2)) := by
  intro sz
  refine pl_entry (Qc := fun A => pw_Qi D (CT ca ++ (OT oc)) (CW ad ca o.2.1 c_transitions c_timerEvent c_from c_event c_next c_variable c_relation c_number c_actions c_kind c_a c_b c_present c_now c_emits c_kept c_ignores c_values c_due c_outputs c_fired o.2.2.1 c_classes c_size c_taken c_stateClass c_finerClass c_usedBits c_offsets c_owners ++ (OW oq oc o.2.2.2)) A o.1) (cc := cL_addState) (maxL := 3) (ret := (some .int)) (hh := [(0, 8, 11, 13)]) (by decide) rfl (Nat.le_of_ble_eq_true rfl) ?_ sz
  intro p e s m args below meth c A ls Z H locs hx hb hr hlocks hts hown hml hK hP hD hS hA hl hT htab hZ
  have hown : s.vm.findClass RL = some m.cls := hown
  have kl13 := hts (.classLink RL 13 "java/lang/IllegalStateException") (by decide +kernel)
  have hl : lv_has ls 3 [(0, .ref (ad 0)), (1, .ref oq)] := hl
  unfold L_addState at hf
  refine lv_aload_n hx hb dL_addState_0 rfl (lv_at hl 1 rfl) ?_
  refine lv_iconst (v := (0 : Int32)) hx hb dL_addState_1 (by decide) ?_
  refine lv_aload_n hx hb dL_addState_2 rfl (lv_at hl 0 rfl) ?_
  obtain ⟨x3, hg3, hfx, hfr⟩ := pr_x hf
  have hKc := hK.sub (tys' := (CT ca)) [0, 1, 2, 3, 4, 5, 6, 7, 8, 9, 10, 11, 12, 13, 14, 15, 16, 17, 18, 19] rfl
  refine px_cViP (b := ad 0) (As := []) (rest := [.int (0 : Int32), .ref oq]) ⟨hx, hb, hml, hown, hts⟩ (c_X3_addState hst (D := D) c_states c_transitions c_timerEvent c_from c_event c_next c_variable c_relation c_number c_actions c_kind c_a c_b c_present c_now c_emits c_kept c_ignores c_values c_due c_outputs c_fired c_made c_classes c_size c_taken c_stateClass c_finerClass c_usedBits c_offsets c_owners  hg3) (cwV 0 hts gL_addState_X3_addState rfl rfl rfl (by decide +kernel) ⟨Nat.le_of_ble_eq_true rfl, Nat.le_of_ble_eq_true rfl⟩) 0 3 rfl rfl hKc hP hD hS hA [0, 1, 2, 3, 4, 5, 6, 7, 8, 9, 10, 11, 12, 13, 14, 15, 16, 17, 18, 19, 20, 21, 22, 23] [24] rfl rfl (by decide) (by decide) (by decide) hT rfl hl.1 rfl (Nat.le_of_ble_eq_true rfl) dL_addState_3 ⟨Nat.le_of_ble_eq_true rfl, Nat.le_of_ble_eq_true rfl⟩ (fun E ce q9 H locs ho hP hD hS hq1 hq2 hq3 => ?_) (fun u H locs ho hP hD hS => ?_)
  · have hf := hfx E ho
    have hP := hP.sub (ws' := (CW ad ca c_states c_transitions c_timerEvent c_from c_event c_next c_variable c_relation c_number c_actions c_kind c_a c_b c_present c_now c_emits c_kept c_ignores c_values c_due c_outputs c_fired c_made c_classes c_size c_taken c_stateClass c_finerClass c_usedBits c_offsets c_owners ++ (OW oq oc l_out))) [1, 2, 3, 4, 5, 6, 7, 8, 9, 10, 11, 12, 13, 14, 15, 16, 17, 18, 19, 20, 21, 22, 23, 24, 0] rfl
    have hD := hD.sub (ws' := (CW ad ca c_states c_transitions c_timerEvent c_from c_event c_next c_variable c_relation c_number c_actions c_kind c_a c_b c_present c_now c_emits c_kept c_ignores c_values c_due c_outputs c_fired c_made c_classes c_size c_taken c_stateClass c_finerClass c_usedBits c_offsets c_owners ++ (OW oq oc l_out))) [1, 2, 3, 4, 5, 6, 7, 8, 9, 10, 11, 12, 13, 14, 15, 16, 17, 18, 19, 20, 21, 22, 23, 24, 0] (by decide) rfl
    by_cases hE0 : E = "java/lang/IllegalStateException"
    · subst hE0
      have hf := pr_t hf rfl
      refine vx_catch (name := "java/lang/IllegalStateException") hown [] ⟨0, 8, 11, 13⟩ [] (by rw [htab]; rfl) (fun z => (fun hz => by cases hz)) (by decide) (by decide) kl13 (va_Nw.use rfl (hT.2.2.2.1 _ (by decide +kernel))) hq1 hq2 hq3 ?_
      refine W.eq (g2 := F0 m 11 ls [.ref q9]) rfl ?_
      refine lv_astore_n (lv' := [(2, .ref q9), (0, .ref (ad 0)), (1, .ref oq)]) hx hb dL_addState_11 rfl hl (by decide) rfl (fun ls hl => ?_)
      refine lv_iconst (v := (1 : Int32)) hx hb dL_addState_12 (by decide) ?_
      obtain rfl := Option.some.inj hf
      subst hZ
      exact pw_ri hx hb hr hlocks hK hP hD hS (Nat.le_of_ble_eq_true rfl) (Nat.le_of_ble_eq_true rfl) dL_addState_13
    have hf := pr_f hf hE0
    exact pr_n hf
  have hf := hfr u ho
  have hP := hP.sub (ws' := (CW ad ca u.2.1 c_transitions c_timerEvent c_from c_event c_next c_variable c_relation c_number c_actions c_kind c_a c_b c_present c_now c_emits c_kept c_ignores c_values c_due c_outputs c_fired u.2.2 c_classes c_size c_taken c_stateClass c_finerClass c_usedBits c_offsets c_owners ++ (OW oq oc l_out))) [1, 2, 3, 4, 5, 6, 7, 8, 9, 10, 11, 12, 13, 14, 15, 16, 17, 18, 19, 20, 21, 22, 23, 24, 0] rfl
  have hD := hD.sub (ws' := (CW ad ca u.2.1 c_transitions c_timerEvent c_from c_event c_next c_variable c_relation c_number c_actions c_kind c_a c_b c_present c_now c_emits c_kept c_ignores c_values c_due c_outputs c_fired u.2.2 c_classes c_size c_taken c_stateClass c_finerClass c_usedBits c_offsets c_owners ++ (OW oq oc l_out))) [1, 2, 3, 4, 5, 6, 7, 8, 9, 10, 11, 12, 13, 14, 15, 16, 17, 18, 19, 20, 21, 22, 23, 24, 0] (by decide) rfl
  refine lv_i2l (v := u.1.toInt64) hx hb dL_addState_6 rfl ?_
  refine va_last hx hb hK hP hD hS 24 20 rfl rfl (by unfold vp_in; decide) dL_addState_7 (fun H locs hP hD hS => ?_)
  have hP : va_P D vwCl (CW ad ca u.2.1 c_transitions c_timerEvent c_from c_event c_next c_variable c_relation c_number c_actions c_kind c_a c_b c_present c_now c_emits c_kept c_ignores c_values c_due c_outputs c_fired u.2.2 c_classes c_size c_taken c_stateClass c_finerClass c_usedBits c_offsets c_owners ++ (OW oq oc (vp_updL l_out (0 : Int32).toNatClampNeg u.1.toInt64))) H := hP
  have hD : va_D A (CW ad ca u.2.1 c_transitions c_timerEvent c_from c_event c_next c_variable c_relation c_number c_actions c_kind c_a c_b c_present c_now c_emits c_kept c_ignores c_values c_due c_outputs c_fired u.2.2 c_classes c_size c_taken c_stateClass c_finerClass c_usedBits c_offsets c_owners ++ (OW oq oc (vp_updL l_out (0 : Int32).toNatClampNeg u.1.toInt64))) := hD
  refine lv_goto (tgt := 14) hx hb dL_addState_8 (by decide) ?_
  refine lv_iconst (v := (0 : Int32)) hx hb dL_addState_14 (by decide) ?_
  obtain rfl := Option.some.inj hf
  subst hZ
  exact pw_ri hx hb hr hlocks hK hP hD hS (Nat.le_of_ble_eq_true rfl) (Nat.le_of_ble_eq_true rfl) dL_addState_15
abbrev rmL_addTransition : Room := { frames := 7, cells := 1, slots := 6, locals := 117 }
set_option maxHeartbeats 4000000 in
set_option maxRecDepth 100000 in
theorem c_L_addTransition {l : Launch} {D : va_G} {ad : Nat → Nat} {ca : Nat → ClassId} {oq : Nat} {oc : ClassId} (hst : l.stackTraces = false) (c_states c_transitions : Int32) (c_timerEvent c_from c_event c_next c_variable c_relation c_number c_actions c_kind c_a c_b : Nat → Int32) (c_present : Int32) (c_now : Int64) (c_emits c_kept c_ignores : Int32) (c_values : Nat → Int32) (c_due : Nat → Int64) (c_outputs c_fired : Nat → Int32) (c_made c_classes c_size c_taken : Int32) (c_stateClass c_finerClass c_usedBits c_offsets c_owners : Nat → Int32) (l_out : Nat → Int64) (v1 v2 v3 v4 v5 v6 : Int32) {o : Int32 × Int32 × (Nat → Int32) × (Nat → Int32) × (Nat → Int32) × (Nat → Int32) × (Nat → Int32) × (Nat → Int32) × (Nat → Int32) × (Nat → Int32) × Int32 × (Nat → Int64)} (hf : L_addTransition c_states c_transitions c_from c_event c_next c_variable c_relation c_number c_actions c_fired c_made l_out v1 v2 v3 v4 v5 v6 = some o) : Li l yL_addTransition wsL_addTransition rmL_addTransition D (CT ca ++ (OT oc)) (CW ad ca c_states c_transitions c_timerEvent c_from c_event c_next c_variable c_relation c_number c_actions c_kind c_a c_b c_present c_now c_emits c_kept c_ignores c_values c_due c_outputs c_fired c_made c_classes c_size c_taken c_stateClass c_finerClass c_usedBits c_offsets c_owners ++ (OW oq oc l_out)) [.ref (ad 0), .int v1, .int v2, .int v3, .int v4, .int v5, .int v6, .ref oq] o.1 (CW ad ca c_states o.2.1 c_timerEvent o.2.2.1 o.2.2.2.1 o.2.2.2.2.1 o.2.2.2.2.2.1 o.2.2.2.2.2.2.1 o.2.2.2.2.2.2.2.1 o.2.2.2.2.2.2.2.2.1 c_kind c_a c_b c_present c_now c_emits c_kept c_ignores c_values c_due c_outputs o.2.2.2.2.2.2.2.2.2.1 o.2.2.2.2.2.2.2.2.2.2.1 c_classes c_size c_taken c_stateClass c_finerClass c_usedBits c_offsets c_owners ++ (OW oq oc o.2.2.2.2.2.2.2.2.2.2.2)) := by
  intro sz
  refine pl_entry (Qc := fun A => pw_Qi D (CT ca ++ (OT oc)) (CW ad ca c_states o.2.1 c_timerEvent o.2.2.1 o.2.2.2.1 o.2.2.2.2.1 o.2.2.2.2.2.1 o.2.2.2.2.2.2.1 o.2.2.2.2.2.2.2.1 o.2.2.2.2.2.2.2.2.1 c_kind c_a c_b c_present c_now c_emits c_kept c_ignores c_values c_due c_outputs o.2.2.2.2.2.2.2.2.2.1 o.2.2.2.2.2.2.2.2.2.2.1 c_classes c_size c_taken c_stateClass c_finerClass c_usedBits c_offsets c_owners ++ (OW oq oc o.2.2.2.2.2.2.2.2.2.2.2)) A o.1) (cc := cL_addTransition) (maxL := 9) (ret := (some .int)) (hh := [(0, 18, 21, 19), (0, 18, 25, 21), (0, 18, 29, 13)]) (by decide) rfl (Nat.le_of_ble_eq_true rfl) ?_ sz
  intro p e s m args below meth c A ls Z H locs hx hb hr hlocks hts hown hml hK hP hD hS hA hl hT htab hZ
  have hown : s.vm.findClass RL = some m.cls := hown
  have kl13 := hts (.classLink RL 13 "java/lang/IllegalStateException") (by decide +kernel)
  have kl19 := hts (.classLink RL 19 "java/lang/IndexOutOfBoundsException") (by decide +kernel)
  have kl21 := hts (.classLink RL 21 "java/lang/IllegalArgumentException") (by decide +kernel)
  have hl : lv_has ls 9 [(0, .ref (ad 0)), (1, .int v1), (2, .int v2), (3, .int v3), (4, .int v4), (5, .int v5), (6, .int v6), (7, .ref oq)] := hl
  unfold L_addTransition at hf
  refine lv_aload hx hb dL_addTransition_0 (lv_at hl 7 rfl) ?_
  refine lv_iconst (v := (0 : Int32)) hx hb dL_addTransition_2 (by decide) ?_
  refine lv_aload_n hx hb dL_addTransition_3 rfl (lv_at hl 0 rfl) ?_
  refine lv_iload_n hx hb dL_addTransition_4 rfl (lv_at hl 1 rfl) ?_
  refine lv_iload_n hx hb dL_addTransition_5 rfl (lv_at hl 2 rfl) ?_
  refine lv_iload_n hx hb dL_addTransition_6 rfl (lv_at hl 3 rfl) ?_
  refine lv_iload hx hb dL_addTransition_7 (lv_at hl 4 rfl) ?_
  refine lv_iload hx hb dL_addTransition_9 (lv_at hl 5 rfl) ?_
  refine lv_iload hx hb dL_addTransition_11 (lv_at hl 6 rfl) ?_
  obtain ⟨x13, hg13, hfx, hfr⟩ := pr_x hf
  have hKc := hK.sub (tys' := (CT ca)) [0, 1, 2, 3, 4, 5, 6, 7, 8, 9, 10, 11, 12, 13, 14, 15, 16, 17, 18, 19] rfl
  refine px_cViP (b := ad 0) (As := [.int v1, .int v2, .int v3, .int v4, .int v5, .int v6]) (rest := [.int (0 : Int32), .ref oq]) ⟨hx, hb, hml, hown, hts⟩ (c_X3_addTransition hst (D := D) c_states c_transitions c_timerEvent c_from c_event c_next c_variable c_relation c_number c_actions c_kind c_a c_b c_present c_now c_emits c_kept c_ignores c_values c_due c_outputs c_fired c_made c_classes c_size c_taken c_stateClass c_finerClass c_usedBits c_offsets c_owners v1 v2 v3 v4 v5 v6 hg13) (cwV 6 hts gL_addTransition_X3_addTransition rfl rfl rfl (by decide +kernel) ⟨Nat.le_of_ble_eq_true rfl, Nat.le_of_ble_eq_true rfl⟩) 0 3 rfl rfl hKc hP hD hS hA [0, 1, 2, 3, 4, 5, 6, 7, 8, 9, 10, 11, 12, 13, 14, 15, 16, 17, 18, 19, 20, 21, 22, 23] [24] rfl rfl (by decide) (by decide) (by decide) hT rfl hl.1 rfl (Nat.le_of_ble_eq_true rfl) dL_addTransition_13 ⟨Nat.le_of_ble_eq_true rfl, Nat.le_of_ble_eq_true rfl⟩ (fun E ce q9 H locs ho hP hD hS hq1 hq2 hq3 => ?_) (fun u H locs ho hP hD hS => ?_)
  · have hf := hfx E ho
    have hP := hP.sub (ws' := (CW ad ca c_states c_transitions c_timerEvent c_from c_event c_next c_variable c_relation c_number c_actions c_kind c_a c_b c_present c_now c_emits c_kept c_ignores c_values c_due c_outputs c_fired c_made c_classes c_size c_taken c_stateClass c_finerClass c_usedBits c_offsets c_owners ++ (OW oq oc l_out))) [1, 2, 3, 4, 5, 6, 7, 8, 9, 10, 11, 12, 13, 14, 15, 16, 17, 18, 19, 20, 21, 22, 23, 24, 0] rfl
    have hD := hD.sub (ws' := (CW ad ca c_states c_transitions c_timerEvent c_from c_event c_next c_variable c_relation c_number c_actions c_kind c_a c_b c_present c_now c_emits c_kept c_ignores c_values c_due c_outputs c_fired c_made c_classes c_size c_taken c_stateClass c_finerClass c_usedBits c_offsets c_owners ++ (OW oq oc l_out))) [1, 2, 3, 4, 5, 6, 7, 8, 9, 10, 11, 12, 13, 14, 15, 16, 17, 18, 19, 20, 21, 22, 23, 24, 0] (by decide) rfl
    by_cases hE0 : E = "java/lang/IndexOutOfBoundsException"
    · subst hE0
      have hf := pr_t hf rfl
      refine vx_catch (name := "java/lang/IndexOutOfBoundsException") hown [] ⟨0, 18, 21, 19⟩ [⟨0, 18, 25, 21⟩, ⟨0, 18, 29, 13⟩] (by rw [htab]; rfl) (fun z => (fun hz => by cases hz)) (by decide) (by decide) kl19 (va_Nw.use rfl (hT.2.2.2.1 _ (by decide +kernel))) hq1 hq2 hq3 ?_
      refine W.eq (g2 := F0 m 21 ls [.ref q9]) rfl ?_
      refine lv_astore (lv' := [(8, .ref q9), (0, .ref (ad 0)), (1, .int v1), (2, .int v2), (3, .int v3), (4, .int v4), (5, .int v5), (6, .int v6), (7, .ref oq)]) hx hb dL_addTransition_21 hl (by decide) rfl (fun ls hl => ?_)
      refine lv_iconst (v := (1 : Int32)) hx hb dL_addTransition_23 (by decide) ?_
      obtain rfl := Option.some.inj hf
      subst hZ
      exact pw_ri hx hb hr hlocks hK hP hD hS (Nat.le_of_ble_eq_true rfl) (Nat.le_of_ble_eq_true rfl) dL_addTransition_24
    have hf := pr_f hf hE0
    by_cases hE1 : E = "java/lang/IllegalArgumentException"
    · subst hE1
      have hf := pr_t hf rfl
      refine vx_catch (name := "java/lang/IllegalArgumentException") hown [⟨0, 18, 21, 19⟩] ⟨0, 18, 25, 21⟩ [⟨0, 18, 29, 13⟩] (by rw [htab]; rfl) (fun z => (fun hz => (List.mem_cons.mp hz).elim (fun h9 => by rw [h9]; exact Or.inr ⟨by decide, _, kl19, hT.2.2.2.2.1 _ (by decide +kernel) _ (by decide +kernel) (by decide +kernel)⟩) (fun hz => by cases hz))) (by decide) (by decide) kl21 (va_Nw.use rfl (hT.2.2.2.1 _ (by decide +kernel))) hq1 hq2 hq3 ?_
      refine W.eq (g2 := F0 m 25 ls [.ref q9]) rfl ?_
      refine lv_astore (lv' := [(8, .ref q9), (0, .ref (ad 0)), (1, .int v1), (2, .int v2), (3, .int v3), (4, .int v4), (5, .int v5), (6, .int v6), (7, .ref oq)]) hx hb dL_addTransition_25 hl (by decide) rfl (fun ls hl => ?_)
      refine lv_iconst (v := (2 : Int32)) hx hb dL_addTransition_27 (by decide) ?_
      obtain rfl := Option.some.inj hf
      subst hZ
      exact pw_ri hx hb hr hlocks hK hP hD hS (Nat.le_of_ble_eq_true rfl) (Nat.le_of_ble_eq_true rfl) dL_addTransition_28
    have hf := pr_f hf hE1
    by_cases hE2 : E = "java/lang/IllegalStateException"
    · subst hE2
      have hf := pr_t hf rfl
      refine vx_catch (name := "java/lang/IllegalStateException") hown [⟨0, 18, 21, 19⟩, ⟨0, 18, 25, 21⟩] ⟨0, 18, 29, 13⟩ [] (by rw [htab]; rfl) (fun z => (fun hz => (List.mem_cons.mp hz).elim (fun h9 => by rw [h9]; exact Or.inr ⟨by decide, _, kl19, hT.2.2.2.2.1 _ (by decide +kernel) _ (by decide +kernel) (by decide +kernel)⟩) (fun hz => (List.mem_cons.mp hz).elim (fun h9 => by rw [h9]; exact Or.inr ⟨by decide, _, kl21, hT.2.2.2.2.1 _ (by decide +kernel) _ (by decide +kernel) (by decide +kernel)⟩) (fun hz => by cases hz)))) (by decide) (by decide) kl13 (va_Nw.use rfl (hT.2.2.2.1 _ (by decide +kernel))) hq1 hq2 hq3 ?_
      refine W.eq (g2 := F0 m 29 ls [.ref q9]) rfl ?_
      refine lv_astore (lv' := [(8, .ref q9), (0, .ref (ad 0)), (1, .int v1), (2, .int v2), (3, .int v3), (4, .int v4), (5, .int v5), (6, .int v6), (7, .ref oq)]) hx hb dL_addTransition_29 hl (by decide) rfl (fun ls hl => ?_)
      refine lv_iconst (v := (3 : Int32)) hx hb dL_addTransition_31 (by decide) ?_
      obtain rfl := Option.some.inj hf
      subst hZ
      exact pw_ri hx hb hr hlocks hK hP hD hS (Nat.le_of_ble_eq_true rfl) (Nat.le_of_ble_eq_true rfl) dL_addTransition_32
    have hf := pr_f hf hE2
    exact pr_n hf
  have hf := hfr u ho
  have hP := hP.sub (ws' := (CW ad ca c_states u.2.1 c_timerEvent u.2.2.1 u.2.2.2.1 u.2.2.2.2.1 u.2.2.2.2.2.1 u.2.2.2.2.2.2.1 u.2.2.2.2.2.2.2.1 u.2.2.2.2.2.2.2.2.1 c_kind c_a c_b c_present c_now c_emits c_kept c_ignores c_values c_due c_outputs u.2.2.2.2.2.2.2.2.2.1 u.2.2.2.2.2.2.2.2.2.2 c_classes c_size c_taken c_stateClass c_finerClass c_usedBits c_offsets c_owners ++ (OW oq oc l_out))) [1, 2, 3, 4, 5, 6, 7, 8, 9, 10, 11, 12, 13, 14, 15, 16, 17, 18, 19, 20, 21, 22, 23, 24, 0] rfl
  have hD := hD.sub (ws' := (CW ad ca c_states u.2.1 c_timerEvent u.2.2.1 u.2.2.2.1 u.2.2.2.2.1 u.2.2.2.2.2.1 u.2.2.2.2.2.2.1 u.2.2.2.2.2.2.2.1 u.2.2.2.2.2.2.2.2.1 c_kind c_a c_b c_present c_now c_emits c_kept c_ignores c_values c_due c_outputs u.2.2.2.2.2.2.2.2.2.1 u.2.2.2.2.2.2.2.2.2.2 c_classes c_size c_taken c_stateClass c_finerClass c_usedBits c_offsets c_owners ++ (OW oq oc l_out))) [1, 2, 3, 4, 5, 6, 7, 8, 9, 10, 11, 12, 13, 14, 15, 16, 17, 18, 19, 20, 21, 22, 23, 24, 0] (by decide) rfl
  refine lv_i2l (v := u.1.toInt64) hx hb dL_addTransition_16 rfl ?_
  refine va_last hx hb hK hP hD hS 24 20 rfl rfl (by unfold vp_in; decide) dL_addTransition_17 (fun H locs hP hD hS => ?_)
  have hP : va_P D vwCl (CW ad ca c_states u.2.1 c_timerEvent u.2.2.1 u.2.2.2.1 u.2.2.2.2.1 u.2.2.2.2.2.1 u.2.2.2.2.2.2.1 u.2.2.2.2.2.2.2.1 u.2.2.2.2.2.2.2.2.1 c_kind c_a c_b c_present c_now c_emits c_kept c_ignores c_values c_due c_outputs u.2.2.2.2.2.2.2.2.2.1 u.2.2.2.2.2.2.2.2.2.2 c_classes c_size c_taken c_stateClass c_finerClass c_usedBits c_offsets c_owners ++ (OW oq oc (vp_updL l_out (0 : Int32).toNatClampNeg u.1.toInt64))) H := hP
  have hD : va_D A (CW ad ca c_states u.2.1 c_timerEvent u.2.2.1 u.2.2.2.1 u.2.2.2.2.1 u.2.2.2.2.2.1 u.2.2.2.2.2.2.1 u.2.2.2.2.2.2.2.1 u.2.2.2.2.2.2.2.2.1 c_kind c_a c_b c_present c_now c_emits c_kept c_ignores c_values c_due c_outputs u.2.2.2.2.2.2.2.2.2.1 u.2.2.2.2.2.2.2.2.2.2 c_classes c_size c_taken c_stateClass c_finerClass c_usedBits c_offsets c_owners ++ (OW oq oc (vp_updL l_out (0 : Int32).toNatClampNeg u.1.toInt64))) := hD
  refine lv_goto (tgt := 33) hx hb dL_addTransition_18 (by decide) ?_
  refine lv_iconst (v := (0 : Int32)) hx hb dL_addTransition_33 (by decide) ?_
  obtain rfl := Option.some.inj hf
  subst hZ
  exact pw_ri hx hb hr hlocks hK hP hD hS (Nat.le_of_ble_eq_true rfl) (Nat.le_of_ble_eq_true rfl) dL_addTransition_34
abbrev rmL_addAction : Room := { frames := 7, cells := 1, slots := 6, locals := 114 }
set_option maxHeartbeats 4000000 in
set_option maxRecDepth 100000 in
theorem c_L_addAction {l : Launch} {D : va_G} {ad : Nat → Nat} {ca : Nat → ClassId} {oq : Nat} {oc : ClassId} (hst : l.stackTraces = false) (c_states c_transitions : Int32) (c_timerEvent c_from c_event c_next c_variable c_relation c_number c_actions c_kind c_a c_b : Nat → Int32) (c_present : Int32) (c_now : Int64) (c_emits c_kept c_ignores : Int32) (c_values : Nat → Int32) (c_due : Nat → Int64) (c_outputs c_fired : Nat → Int32) (c_made c_classes c_size c_taken : Int32) (c_stateClass c_finerClass c_usedBits c_offsets c_owners : Nat → Int32) (l_out : Nat → Int64) (v1 v2 v3 v4 : Int32) {o : Int32 × (Nat → Int32) × (Nat → Int32) × (Nat → Int32) × (Nat → Int32) × Int32 × (Nat → Int64)} (hf : L_addAction c_transitions c_actions c_kind c_a c_b c_made l_out v1 v2 v3 v4 = some o) : Li l yL_addAction wsL_addAction rmL_addAction D (CT ca ++ (OT oc)) (CW ad ca c_states c_transitions c_timerEvent c_from c_event c_next c_variable c_relation c_number c_actions c_kind c_a c_b c_present c_now c_emits c_kept c_ignores c_values c_due c_outputs c_fired c_made c_classes c_size c_taken c_stateClass c_finerClass c_usedBits c_offsets c_owners ++ (OW oq oc l_out)) [.ref (ad 0), .int v1, .int v2, .int v3, .int v4, .ref oq] o.1 (CW ad ca c_states c_transitions c_timerEvent c_from c_event c_next c_variable c_relation c_number o.2.1 o.2.2.1 o.2.2.2.1 o.2.2.2.2.1 c_present c_now c_emits c_kept c_ignores c_values c_due c_outputs c_fired o.2.2.2.2.2.1 c_classes c_size c_taken c_stateClass c_finerClass c_usedBits c_offsets c_owners ++ (OW oq oc o.2.2.2.2.2.2)) := by
  intro sz
  refine pl_entry (Qc := fun A => pw_Qi D (CT ca ++ (OT oc)) (CW ad ca c_states c_transitions c_timerEvent c_from c_event c_next c_variable c_relation c_number o.2.1 o.2.2.1 o.2.2.2.1 o.2.2.2.2.1 c_present c_now c_emits c_kept c_ignores c_values c_due c_outputs c_fired o.2.2.2.2.2.1 c_classes c_size c_taken c_stateClass c_finerClass c_usedBits c_offsets c_owners ++ (OW oq oc o.2.2.2.2.2.2)) A o.1) (cc := cL_addAction) (maxL := 7) (ret := (some .int)) (hh := [(0, 14, 17, 19), (0, 14, 21, 21), (0, 14, 25, 13)]) (by decide) rfl (Nat.le_of_ble_eq_true rfl) ?_ sz
  intro p e s m args below meth c A ls Z H locs hx hb hr hlocks hts hown hml hK hP hD hS hA hl hT htab hZ
  have hown : s.vm.findClass RL = some m.cls := hown
  have kl13 := hts (.classLink RL 13 "java/lang/IllegalStateException") (by decide +kernel)
  have kl19 := hts (.classLink RL 19 "java/lang/IndexOutOfBoundsException") (by decide +kernel)
  have kl21 := hts (.classLink RL 21 "java/lang/IllegalArgumentException") (by decide +kernel)
  have hl : lv_has ls 7 [(0, .ref (ad 0)), (1, .int v1), (2, .int v2), (3, .int v3), (4, .int v4), (5, .ref oq)] := hl
  unfold L_addAction at hf
  refine lv_aload hx hb dL_addAction_0 (lv_at hl 5 rfl) ?_
  refine lv_iconst (v := (0 : Int32)) hx hb dL_addAction_2 (by decide) ?_
  refine lv_aload_n hx hb dL_addAction_3 rfl (lv_at hl 0 rfl) ?_
  refine lv_iload_n hx hb dL_addAction_4 rfl (lv_at hl 1 rfl) ?_
  refine lv_iload_n hx hb dL_addAction_5 rfl (lv_at hl 2 rfl) ?_
  refine lv_iload_n hx hb dL_addAction_6 rfl (lv_at hl 3 rfl) ?_
  refine lv_iload hx hb dL_addAction_7 (lv_at hl 4 rfl) ?_
  obtain ⟨x9, hg9, hfx, hfr⟩ := pr_x hf
  have hKc := hK.sub (tys' := (CT ca)) [0, 1, 2, 3, 4, 5, 6, 7, 8, 9, 10, 11, 12, 13, 14, 15, 16, 17, 18, 19] rfl
  refine px_cViP (b := ad 0) (As := [.int v1, .int v2, .int v3, .int v4]) (rest := [.int (0 : Int32), .ref oq]) ⟨hx, hb, hml, hown, hts⟩ (c_X3_addAction hst (D := D) c_states c_transitions c_timerEvent c_from c_event c_next c_variable c_relation c_number c_actions c_kind c_a c_b c_present c_now c_emits c_kept c_ignores c_values c_due c_outputs c_fired c_made c_classes c_size c_taken c_stateClass c_finerClass c_usedBits c_offsets c_owners v1 v2 v3 v4 hg9) (cwV 4 hts gL_addAction_X3_addAction rfl rfl rfl (by decide +kernel) ⟨Nat.le_of_ble_eq_true rfl, Nat.le_of_ble_eq_true rfl⟩) 0 3 rfl rfl hKc hP hD hS hA [0, 1, 2, 3, 4, 5, 6, 7, 8, 9, 10, 11, 12, 13, 14, 15, 16, 17, 18, 19, 20, 21, 22, 23] [24] rfl rfl (by decide) (by decide) (by decide) hT rfl hl.1 rfl (Nat.le_of_ble_eq_true rfl) dL_addAction_9 ⟨Nat.le_of_ble_eq_true rfl, Nat.le_of_ble_eq_true rfl⟩ (fun E ce q9 H locs ho hP hD hS hq1 hq2 hq3 => ?_) (fun u H locs ho hP hD hS => ?_)
  · have hf := hfx E ho
    have hP := hP.sub (ws' := (CW ad ca c_states c_transitions c_timerEvent c_from c_event c_next c_variable c_relation c_number c_actions c_kind c_a c_b c_present c_now c_emits c_kept c_ignores c_values c_due c_outputs c_fired c_made c_classes c_size c_taken c_stateClass c_finerClass c_usedBits c_offsets c_owners ++ (OW oq oc l_out))) [1, 2, 3, 4, 5, 6, 7, 8, 9, 10, 11, 12, 13, 14, 15, 16, 17, 18, 19, 20, 21, 22, 23, 24, 0] rfl
    have hD := hD.sub (ws' := (CW ad ca c_states c_transitions c_timerEvent c_from c_event c_next c_variable c_relation c_number c_actions c_kind c_a c_b c_present c_now c_emits c_kept c_ignores c_values c_due c_outputs c_fired c_made c_classes c_size c_taken c_stateClass c_finerClass c_usedBits c_offsets c_owners ++ (OW oq oc l_out))) [1, 2, 3, 4, 5, 6, 7, 8, 9, 10, 11, 12, 13, 14, 15, 16, 17, 18, 19, 20, 21, 22, 23, 24, 0] (by decide) rfl
    by_cases hE0 : E = "java/lang/IndexOutOfBoundsException"
    · subst hE0
      have hf := pr_t hf rfl
      refine vx_catch (name := "java/lang/IndexOutOfBoundsException") hown [] ⟨0, 14, 17, 19⟩ [⟨0, 14, 21, 21⟩, ⟨0, 14, 25, 13⟩] (by rw [htab]; rfl) (fun z => (fun hz => by cases hz)) (by decide) (by decide) kl19 (va_Nw.use rfl (hT.2.2.2.1 _ (by decide +kernel))) hq1 hq2 hq3 ?_
      refine W.eq (g2 := F0 m 17 ls [.ref q9]) rfl ?_
      refine lv_astore (lv' := [(6, .ref q9), (0, .ref (ad 0)), (1, .int v1), (2, .int v2), (3, .int v3), (4, .int v4), (5, .ref oq)]) hx hb dL_addAction_17 hl (by decide) rfl (fun ls hl => ?_)
      refine lv_iconst (v := (1 : Int32)) hx hb dL_addAction_19 (by decide) ?_
      obtain rfl := Option.some.inj hf
      subst hZ
      exact pw_ri hx hb hr hlocks hK hP hD hS (Nat.le_of_ble_eq_true rfl) (Nat.le_of_ble_eq_true rfl) dL_addAction_20
    have hf := pr_f hf hE0
    by_cases hE1 : E = "java/lang/IllegalArgumentException"
    · subst hE1
      have hf := pr_t hf rfl
      refine vx_catch (name := "java/lang/IllegalArgumentException") hown [⟨0, 14, 17, 19⟩] ⟨0, 14, 21, 21⟩ [⟨0, 14, 25, 13⟩] (by rw [htab]; rfl) (fun z => (fun hz => (List.mem_cons.mp hz).elim (fun h9 => by rw [h9]; exact Or.inr ⟨by decide, _, kl19, hT.2.2.2.2.1 _ (by decide +kernel) _ (by decide +kernel) (by decide +kernel)⟩) (fun hz => by cases hz))) (by decide) (by decide) kl21 (va_Nw.use rfl (hT.2.2.2.1 _ (by decide +kernel))) hq1 hq2 hq3 ?_
      refine W.eq (g2 := F0 m 21 ls [.ref q9]) rfl ?_
      refine lv_astore (lv' := [(6, .ref q9), (0, .ref (ad 0)), (1, .int v1), (2, .int v2), (3, .int v3), (4, .int v4), (5, .ref oq)]) hx hb dL_addAction_21 hl (by decide) rfl (fun ls hl => ?_)
      refine lv_iconst (v := (2 : Int32)) hx hb dL_addAction_23 (by decide) ?_
      obtain rfl := Option.some.inj hf
      subst hZ
      exact pw_ri hx hb hr hlocks hK hP hD hS (Nat.le_of_ble_eq_true rfl) (Nat.le_of_ble_eq_true rfl) dL_addAction_24
    have hf := pr_f hf hE1
    by_cases hE2 : E = "java/lang/IllegalStateException"
    · subst hE2
      have hf := pr_t hf rfl
      refine vx_catch (name := "java/lang/IllegalStateException") hown [⟨0, 14, 17, 19⟩, ⟨0, 14, 21, 21⟩] ⟨0, 14, 25, 13⟩ [] (by rw [htab]; rfl) (fun z => (fun hz => (List.mem_cons.mp hz).elim (fun h9 => by rw [h9]; exact Or.inr ⟨by decide, _, kl19, hT.2.2.2.2.1 _ (by decide +kernel) _ (by decide +kernel) (by decide +kernel)⟩) (fun hz => (List.mem_cons.mp hz).elim (fun h9 => by rw [h9]; exact Or.inr ⟨by decide, _, kl21, hT.2.2.2.2.1 _ (by decide +kernel) _ (by decide +kernel) (by decide +kernel)⟩) (fun hz => by cases hz)))) (by decide) (by decide) kl13 (va_Nw.use rfl (hT.2.2.2.1 _ (by decide +kernel))) hq1 hq2 hq3 ?_
      refine W.eq (g2 := F0 m 25 ls [.ref q9]) rfl ?_
      refine lv_astore (lv' := [(6, .ref q9), (0, .ref (ad 0)), (1, .int v1), (2, .int v2), (3, .int v3), (4, .int v4), (5, .ref oq)]) hx hb dL_addAction_25 hl (by decide) rfl (fun ls hl => ?_)
      refine lv_iconst (v := (3 : Int32)) hx hb dL_addAction_27 (by decide) ?_
      obtain rfl := Option.some.inj hf
      subst hZ
      exact pw_ri hx hb hr hlocks hK hP hD hS (Nat.le_of_ble_eq_true rfl) (Nat.le_of_ble_eq_true rfl) dL_addAction_28
    have hf := pr_f hf hE2
    exact pr_n hf
  have hf := hfr u ho
  have hP := hP.sub (ws' := (CW ad ca c_states c_transitions c_timerEvent c_from c_event c_next c_variable c_relation c_number u.2.1 u.2.2.1 u.2.2.2.1 u.2.2.2.2.1 c_present c_now c_emits c_kept c_ignores c_values c_due c_outputs c_fired u.2.2.2.2.2 c_classes c_size c_taken c_stateClass c_finerClass c_usedBits c_offsets c_owners ++ (OW oq oc l_out))) [1, 2, 3, 4, 5, 6, 7, 8, 9, 10, 11, 12, 13, 14, 15, 16, 17, 18, 19, 20, 21, 22, 23, 24, 0] rfl
  have hD := hD.sub (ws' := (CW ad ca c_states c_transitions c_timerEvent c_from c_event c_next c_variable c_relation c_number u.2.1 u.2.2.1 u.2.2.2.1 u.2.2.2.2.1 c_present c_now c_emits c_kept c_ignores c_values c_due c_outputs c_fired u.2.2.2.2.2 c_classes c_size c_taken c_stateClass c_finerClass c_usedBits c_offsets c_owners ++ (OW oq oc l_out))) [1, 2, 3, 4, 5, 6, 7, 8, 9, 10, 11, 12, 13, 14, 15, 16, 17, 18, 19, 20, 21, 22, 23, 24, 0] (by decide) rfl
  refine lv_i2l (v := u.1.toInt64) hx hb dL_addAction_12 rfl ?_
  refine va_last hx hb hK hP hD hS 24 20 rfl rfl (by unfold vp_in; decide) dL_addAction_13 (fun H locs hP hD hS => ?_)
  have hP : va_P D vwCl (CW ad ca c_states c_transitions c_timerEvent c_from c_event c_next c_variable c_relation c_number u.2.1 u.2.2.1 u.2.2.2.1 u.2.2.2.2.1 c_present c_now c_emits c_kept c_ignores c_values c_due c_outputs c_fired u.2.2.2.2.2 c_classes c_size c_taken c_stateClass c_finerClass c_usedBits c_offsets c_owners ++ (OW oq oc (vp_updL l_out (0 : Int32).toNatClampNeg u.1.toInt64))) H := hP
  have hD : va_D A (CW ad ca c_states c_transitions c_timerEvent c_from c_event c_next c_variable c_relation c_number u.2.1 u.2.2.1 u.2.2.2.1 u.2.2.2.2.1 c_present c_now c_emits c_kept c_ignores c_values c_due c_outputs c_fired u.2.2.2.2.2 c_classes c_size c_taken c_stateClass c_finerClass c_usedBits c_offsets c_owners ++ (OW oq oc (vp_updL l_out (0 : Int32).toNatClampNeg u.1.toInt64))) := hD
  refine lv_goto (tgt := 29) hx hb dL_addAction_14 (by decide) ?_
  refine lv_iconst (v := (0 : Int32)) hx hb dL_addAction_29 (by decide) ?_
  obtain rfl := Option.some.inj hf
  subst hZ
  exact pw_ri hx hb hr hlocks hK hP hD hS (Nat.le_of_ble_eq_true rfl) (Nat.le_of_ble_eq_true rfl) dL_addAction_30
abbrev rmL_drop : Room := { frames := 7, cells := 1, slots := 6, locals := 110 }
set_option maxHeartbeats 4000000 in
set_option maxRecDepth 100000 in
theorem c_L_drop {l : Launch} {D : va_G} {ad : Nat → Nat} {ca : Nat → ClassId} {oq : Nat} {oc : ClassId} (hst : l.stackTraces = false) (c_states c_transitions : Int32) (c_timerEvent c_from c_event c_next c_variable c_relation c_number c_actions c_kind c_a c_b : Nat → Int32) (c_present : Int32) (c_now : Int64) (c_emits c_kept c_ignores : Int32) (c_values : Nat → Int32) (c_due : Nat → Int64) (c_outputs c_fired : Nat → Int32) (c_made c_classes c_size c_taken : Int32) (c_stateClass c_finerClass c_usedBits c_offsets c_owners : Nat → Int32) (l_out : Nat → Int64) {o : Int32 × Int32 × Int32 × (Nat → Int64)} (hf : L_drop c_transitions c_made l_out = some o) : Li l yL_drop wsL_drop rmL_drop D (CT ca ++ (OT oc)) (CW ad ca c_states c_transitions c_timerEvent c_from c_event c_next c_variable c_relation c_number c_actions c_kind c_a c_b c_present c_now c_emits c_kept c_ignores c_values c_due c_outputs c_fired c_made c_classes c_size c_taken c_stateClass c_finerClass c_usedBits c_offsets c_owners ++ (OW oq oc l_out)) [.ref (ad 0), .ref oq] o.1 (CW ad ca c_states o.2.1 c_timerEvent c_from c_event c_next c_variable c_relation c_number c_actions c_kind c_a c_b c_present c_now c_emits c_kept c_ignores c_values c_due c_outputs c_fired o.2.2.1 c_classes c_size c_taken c_stateClass c_finerClass c_usedBits c_offsets c_owners ++ (OW oq oc o.2.2.2)) := by
  intro sz
  refine pl_entry (Qc := fun A => pw_Qi D (CT ca ++ (OT oc)) (CW ad ca c_states o.2.1 c_timerEvent c_from c_event c_next c_variable c_relation c_number c_actions c_kind c_a c_b c_present c_now c_emits c_kept c_ignores c_values c_due c_outputs c_fired o.2.2.1 c_classes c_size c_taken c_stateClass c_finerClass c_usedBits c_offsets c_owners ++ (OW oq oc o.2.2.2)) A o.1) (cc := cL_drop) (maxL := 3) (ret := (some .int)) (hh := [(0, 8, 11, 13)]) (by decide) rfl (Nat.le_of_ble_eq_true rfl) ?_ sz
  intro p e s m args below meth c A ls Z H locs hx hb hr hlocks hts hown hml hK hP hD hS hA hl hT htab hZ
  have hown : s.vm.findClass RL = some m.cls := hown
  have kl13 := hts (.classLink RL 13 "java/lang/IllegalStateException") (by decide +kernel)
  have hl : lv_has ls 3 [(0, .ref (ad 0)), (1, .ref oq)] := hl
  unfold L_drop at hf
  refine lv_aload_n hx hb dL_drop_0 rfl (lv_at hl 1 rfl) ?_
  refine lv_iconst (v := (0 : Int32)) hx hb dL_drop_1 (by decide) ?_
  refine lv_aload_n hx hb dL_drop_2 rfl (lv_at hl 0 rfl) ?_
  obtain ⟨x3, hg3, hfx, hfr⟩ := pr_x hf
  have hKc := hK.sub (tys' := (CT ca)) [0, 1, 2, 3, 4, 5, 6, 7, 8, 9, 10, 11, 12, 13, 14, 15, 16, 17, 18, 19] rfl
  refine px_cViP (b := ad 0) (As := []) (rest := [.int (0 : Int32), .ref oq]) ⟨hx, hb, hml, hown, hts⟩ (c_X3_drop hst (D := D) c_states c_transitions c_timerEvent c_from c_event c_next c_variable c_relation c_number c_actions c_kind c_a c_b c_present c_now c_emits c_kept c_ignores c_values c_due c_outputs c_fired c_made c_classes c_size c_taken c_stateClass c_finerClass c_usedBits c_offsets c_owners  hg3) (cwV 0 hts gL_drop_X3_drop rfl rfl rfl (by decide +kernel) ⟨Nat.le_of_ble_eq_true rfl, Nat.le_of_ble_eq_true rfl⟩) 0 3 rfl rfl hKc hP hD hS hA [0, 1, 2, 3, 4, 5, 6, 7, 8, 9, 10, 11, 12, 13, 14, 15, 16, 17, 18, 19, 20, 21, 22, 23] [24] rfl rfl (by decide) (by decide) (by decide) hT rfl hl.1 rfl (Nat.le_of_ble_eq_true rfl) dL_drop_3 ⟨Nat.le_of_ble_eq_true rfl, Nat.le_of_ble_eq_true rfl⟩ (fun E ce q9 H locs ho hP hD hS hq1 hq2 hq3 => ?_) (fun u H locs ho hP hD hS => ?_)
  · have hf := hfx E ho
    have hP := hP.sub (ws' := (CW ad ca c_states c_transitions c_timerEvent c_from c_event c_next c_variable c_relation c_number c_actions c_kind c_a c_b c_present c_now c_emits c_kept c_ignores c_values c_due c_outputs c_fired c_made c_classes c_size c_taken c_stateClass c_finerClass c_usedBits c_offsets c_owners ++ (OW oq oc l_out))) [1, 2, 3, 4, 5, 6, 7, 8, 9, 10, 11, 12, 13, 14, 15, 16, 17, 18, 19, 20, 21, 22, 23, 24, 0] rfl
    have hD := hD.sub (ws' := (CW ad ca c_states c_transitions c_timerEvent c_from c_event c_next c_variable c_relation c_number c_actions c_kind c_a c_b c_present c_now c_emits c_kept c_ignores c_values c_due c_outputs c_fired c_made c_classes c_size c_taken c_stateClass c_finerClass c_usedBits c_offsets c_owners ++ (OW oq oc l_out))) [1, 2, 3, 4, 5, 6, 7, 8, 9, 10, 11, 12, 13, 14, 15, 16, 17, 18, 19, 20, 21, 22, 23, 24, 0] (by decide) rfl
    by_cases hE0 : E = "java/lang/IllegalStateException"
    · subst hE0
      have hf := pr_t hf rfl
      refine vx_catch (name := "java/lang/IllegalStateException") hown [] ⟨0, 8, 11, 13⟩ [] (by rw [htab]; rfl) (fun z => (fun hz => by cases hz)) (by decide) (by decide) kl13 (va_Nw.use rfl (hT.2.2.2.1 _ (by decide +kernel))) hq1 hq2 hq3 ?_
      refine W.eq (g2 := F0 m 11 ls [.ref q9]) rfl ?_
      refine lv_astore_n (lv' := [(2, .ref q9), (0, .ref (ad 0)), (1, .ref oq)]) hx hb dL_drop_11 rfl hl (by decide) rfl (fun ls hl => ?_)
      refine lv_iconst (v := (1 : Int32)) hx hb dL_drop_12 (by decide) ?_
      obtain rfl := Option.some.inj hf
      subst hZ
      exact pw_ri hx hb hr hlocks hK hP hD hS (Nat.le_of_ble_eq_true rfl) (Nat.le_of_ble_eq_true rfl) dL_drop_13
    have hf := pr_f hf hE0
    exact pr_n hf
  have hf := hfr u ho
  have hP := hP.sub (ws' := (CW ad ca c_states u.2.1 c_timerEvent c_from c_event c_next c_variable c_relation c_number c_actions c_kind c_a c_b c_present c_now c_emits c_kept c_ignores c_values c_due c_outputs c_fired u.2.2 c_classes c_size c_taken c_stateClass c_finerClass c_usedBits c_offsets c_owners ++ (OW oq oc l_out))) [1, 2, 3, 4, 5, 6, 7, 8, 9, 10, 11, 12, 13, 14, 15, 16, 17, 18, 19, 20, 21, 22, 23, 24, 0] rfl
  have hD := hD.sub (ws' := (CW ad ca c_states u.2.1 c_timerEvent c_from c_event c_next c_variable c_relation c_number c_actions c_kind c_a c_b c_present c_now c_emits c_kept c_ignores c_values c_due c_outputs c_fired u.2.2 c_classes c_size c_taken c_stateClass c_finerClass c_usedBits c_offsets c_owners ++ (OW oq oc l_out))) [1, 2, 3, 4, 5, 6, 7, 8, 9, 10, 11, 12, 13, 14, 15, 16, 17, 18, 19, 20, 21, 22, 23, 24, 0] (by decide) rfl
  refine lv_i2l (v := u.1.toInt64) hx hb dL_drop_6 rfl ?_
  refine va_last hx hb hK hP hD hS 24 20 rfl rfl (by unfold vp_in; decide) dL_drop_7 (fun H locs hP hD hS => ?_)
  have hP : va_P D vwCl (CW ad ca c_states u.2.1 c_timerEvent c_from c_event c_next c_variable c_relation c_number c_actions c_kind c_a c_b c_present c_now c_emits c_kept c_ignores c_values c_due c_outputs c_fired u.2.2 c_classes c_size c_taken c_stateClass c_finerClass c_usedBits c_offsets c_owners ++ (OW oq oc (vp_updL l_out (0 : Int32).toNatClampNeg u.1.toInt64))) H := hP
  have hD : va_D A (CW ad ca c_states u.2.1 c_timerEvent c_from c_event c_next c_variable c_relation c_number c_actions c_kind c_a c_b c_present c_now c_emits c_kept c_ignores c_values c_due c_outputs c_fired u.2.2 c_classes c_size c_taken c_stateClass c_finerClass c_usedBits c_offsets c_owners ++ (OW oq oc (vp_updL l_out (0 : Int32).toNatClampNeg u.1.toInt64))) := hD
  refine lv_goto (tgt := 14) hx hb dL_drop_8 (by decide) ?_
  refine lv_iconst (v := (0 : Int32)) hx hb dL_drop_14 (by decide) ?_
  obtain rfl := Option.some.inj hf
  subst hZ
  exact pw_ri hx hb hr hlocks hK hP hD hS (Nat.le_of_ble_eq_true rfl) (Nat.le_of_ble_eq_true rfl) dL_drop_15
abbrev rmL_setTimerEvent : Room := { frames := 7, cells := 1, slots := 6, locals := 113 }
set_option maxHeartbeats 4000000 in
set_option maxRecDepth 100000 in
theorem c_L_setTimerEvent {l : Launch} {D : va_G} {ad : Nat → Nat} {ca : Nat → ClassId} {oq : Nat} {oc : ClassId} (hst : l.stackTraces = false) (c_states c_transitions : Int32) (c_timerEvent c_from c_event c_next c_variable c_relation c_number c_actions c_kind c_a c_b : Nat → Int32) (c_present : Int32) (c_now : Int64) (c_emits c_kept c_ignores : Int32) (c_values : Nat → Int32) (c_due : Nat → Int64) (c_outputs c_fired : Nat → Int32) (c_made c_classes c_size c_taken : Int32) (c_stateClass c_finerClass c_usedBits c_offsets c_owners : Nat → Int32) (l_out : Nat → Int64) (v1 v2 : Int32) {o : Int32 × (Nat → Int32) × Int32 × (Nat → Int64)} (hf : L_setTimerEvent c_timerEvent c_made l_out v1 v2 = some o) : Li l yL_setTimerEvent wsL_setTimerEvent rmL_setTimerEvent D (CT ca ++ (OT oc)) (CW ad ca c_states c_transitions c_timerEvent c_from c_event c_next c_variable c_relation c_number c_actions c_kind c_a c_b c_present c_now c_emits c_kept c_ignores c_values c_due c_outputs c_fired c_made c_classes c_size c_taken c_stateClass c_finerClass c_usedBits c_offsets c_owners ++ (OW oq oc l_out)) [.ref (ad 0), .int v1, .int v2, .ref oq] o.1 (CW ad ca c_states c_transitions o.2.1 c_from c_event c_next c_variable c_relation c_number c_actions c_kind c_a c_b c_present c_now c_emits c_kept c_ignores c_values c_due c_outputs c_fired o.2.2.1 c_classes c_size c_taken c_stateClass c_finerClass c_usedBits c_offsets c_owners ++ (OW oq oc o.2.2.2)) := by
  intro sz
  refine pl_entry (Qc := fun A => pw_Qi D (CT ca ++ (OT oc)) (CW ad ca c_states c_transitions o.2.1 c_from c_event c_next c_variable c_relation c_number c_actions c_kind c_a c_b c_present c_now c_emits c_kept c_ignores c_values c_due c_outputs c_fired o.2.2.1 c_classes c_size c_taken c_stateClass c_finerClass c_usedBits c_offsets c_owners ++ (OW oq oc o.2.2.2)) A o.1) (cc := cL_setTimerEvent) (maxL := 5) (ret := (some .int)) (hh := [(0, 10, 13, 19)]) (by decide) rfl (Nat.le_of_ble_eq_true rfl) ?_ sz
  intro p e s m args below meth c A ls Z H locs hx hb hr hlocks hts hown hml hK hP hD hS hA hl hT htab hZ
  have hown : s.vm.findClass RL = some m.cls := hown
  have kl19 := hts (.classLink RL 19 "java/lang/IndexOutOfBoundsException") (by decide +kernel)
  have hl : lv_has ls 5 [(0, .ref (ad 0)), (1, .int v1), (2, .int v2), (3, .ref oq)] := hl
  unfold L_setTimerEvent at hf
  refine lv_aload_n hx hb dL_setTimerEvent_0 rfl (lv_at hl 3 rfl) ?_
  refine lv_iconst (v := (0 : Int32)) hx hb dL_setTimerEvent_1 (by decide) ?_
  refine lv_aload_n hx hb dL_setTimerEvent_2 rfl (lv_at hl 0 rfl) ?_
  refine lv_iload_n hx hb dL_setTimerEvent_3 rfl (lv_at hl 1 rfl) ?_
  refine lv_iload_n hx hb dL_setTimerEvent_4 rfl (lv_at hl 2 rfl) ?_
  obtain ⟨x5, hg5, hfx, hfr⟩ := pr_x hf
  have hKc := hK.sub (tys' := (CT ca)) [0, 1, 2, 3, 4, 5, 6, 7, 8, 9, 10, 11, 12, 13, 14, 15, 16, 17, 18, 19] rfl
  refine px_cViP (b := ad 0) (As := [.int v1, .int v2]) (rest := [.int (0 : Int32), .ref oq]) ⟨hx, hb, hml, hown, hts⟩ (c_X3_setTimerEvent hst (D := D) c_states c_transitions c_timerEvent c_from c_event c_next c_variable c_relation c_number c_actions c_kind c_a c_b c_present c_now c_emits c_kept c_ignores c_values c_due c_outputs c_fired c_made c_classes c_size c_taken c_stateClass c_finerClass c_usedBits c_offsets c_owners v1 v2 hg5) (cwV 2 hts gL_setTimerEvent_X3_setTimerEvent rfl rfl rfl (by decide +kernel) ⟨Nat.le_of_ble_eq_true rfl, Nat.le_of_ble_eq_true rfl⟩) 0 3 rfl rfl hKc hP hD hS hA [0, 1, 2, 3, 4, 5, 6, 7, 8, 9, 10, 11, 12, 13, 14, 15, 16, 17, 18, 19, 20, 21, 22, 23] [24] rfl rfl (by decide) (by decide) (by decide) hT rfl hl.1 rfl (Nat.le_of_ble_eq_true rfl) dL_setTimerEvent_5 ⟨Nat.le_of_ble_eq_true rfl, Nat.le_of_ble_eq_true rfl⟩ (fun E ce q9 H locs ho hP hD hS hq1 hq2 hq3 => ?_) (fun u H locs ho hP hD hS => ?_)
  · have hf := hfx E ho
    have hP := hP.sub (ws' := (CW ad ca c_states c_transitions c_timerEvent c_from c_event c_next c_variable c_relation c_number c_actions c_kind c_a c_b c_present c_now c_emits c_kept c_ignores c_values c_due c_outputs c_fired c_made c_classes c_size c_taken c_stateClass c_finerClass c_usedBits c_offsets c_owners ++ (OW oq oc l_out))) [1, 2, 3, 4, 5, 6, 7, 8, 9, 10, 11, 12, 13, 14, 15, 16, 17, 18, 19, 20, 21, 22, 23, 24, 0] rfl
    have hD := hD.sub (ws' := (CW ad ca c_states c_transitions c_timerEvent c_from c_event c_next c_variable c_relation c_number c_actions c_kind c_a c_b c_present c_now c_emits c_kept c_ignores c_values c_due c_outputs c_fired c_made c_classes c_size c_taken c_stateClass c_finerClass c_usedBits c_offsets c_owners ++ (OW oq oc l_out))) [1, 2, 3, 4, 5, 6, 7, 8, 9, 10, 11, 12, 13, 14, 15, 16, 17, 18, 19, 20, 21, 22, 23, 24, 0] (by decide) rfl
    by_cases hE0 : E = "java/lang/IndexOutOfBoundsException"
    · subst hE0
      have hf := pr_t hf rfl
      refine vx_catch (name := "java/lang/IndexOutOfBoundsException") hown [] ⟨0, 10, 13, 19⟩ [] (by rw [htab]; rfl) (fun z => (fun hz => by cases hz)) (by decide) (by decide) kl19 (va_Nw.use rfl (hT.2.2.2.1 _ (by decide +kernel))) hq1 hq2 hq3 ?_
      refine W.eq (g2 := F0 m 13 ls [.ref q9]) rfl ?_
      refine lv_astore (lv' := [(4, .ref q9), (0, .ref (ad 0)), (1, .int v1), (2, .int v2), (3, .ref oq)]) hx hb dL_setTimerEvent_13 hl (by decide) rfl (fun ls hl => ?_)
      refine lv_iconst (v := (1 : Int32)) hx hb dL_setTimerEvent_15 (by decide) ?_
      obtain rfl := Option.some.inj hf
      subst hZ
      exact pw_ri hx hb hr hlocks hK hP hD hS (Nat.le_of_ble_eq_true rfl) (Nat.le_of_ble_eq_true rfl) dL_setTimerEvent_16
    have hf := pr_f hf hE0
    exact pr_n hf
  have hf := hfr u ho
  have hP := hP.sub (ws' := (CW ad ca c_states c_transitions u.2.1 c_from c_event c_next c_variable c_relation c_number c_actions c_kind c_a c_b c_present c_now c_emits c_kept c_ignores c_values c_due c_outputs c_fired u.2.2 c_classes c_size c_taken c_stateClass c_finerClass c_usedBits c_offsets c_owners ++ (OW oq oc l_out))) [1, 2, 3, 4, 5, 6, 7, 8, 9, 10, 11, 12, 13, 14, 15, 16, 17, 18, 19, 20, 21, 22, 23, 24, 0] rfl
  have hD := hD.sub (ws' := (CW ad ca c_states c_transitions u.2.1 c_from c_event c_next c_variable c_relation c_number c_actions c_kind c_a c_b c_present c_now c_emits c_kept c_ignores c_values c_due c_outputs c_fired u.2.2 c_classes c_size c_taken c_stateClass c_finerClass c_usedBits c_offsets c_owners ++ (OW oq oc l_out))) [1, 2, 3, 4, 5, 6, 7, 8, 9, 10, 11, 12, 13, 14, 15, 16, 17, 18, 19, 20, 21, 22, 23, 24, 0] (by decide) rfl
  refine lv_i2l (v := u.1.toInt64) hx hb dL_setTimerEvent_8 rfl ?_
  refine va_last hx hb hK hP hD hS 24 20 rfl rfl (by unfold vp_in; decide) dL_setTimerEvent_9 (fun H locs hP hD hS => ?_)
  have hP : va_P D vwCl (CW ad ca c_states c_transitions u.2.1 c_from c_event c_next c_variable c_relation c_number c_actions c_kind c_a c_b c_present c_now c_emits c_kept c_ignores c_values c_due c_outputs c_fired u.2.2 c_classes c_size c_taken c_stateClass c_finerClass c_usedBits c_offsets c_owners ++ (OW oq oc (vp_updL l_out (0 : Int32).toNatClampNeg u.1.toInt64))) H := hP
  have hD : va_D A (CW ad ca c_states c_transitions u.2.1 c_from c_event c_next c_variable c_relation c_number c_actions c_kind c_a c_b c_present c_now c_emits c_kept c_ignores c_values c_due c_outputs c_fired u.2.2 c_classes c_size c_taken c_stateClass c_finerClass c_usedBits c_offsets c_owners ++ (OW oq oc (vp_updL l_out (0 : Int32).toNatClampNeg u.1.toInt64))) := hD
  refine lv_goto (tgt := 17) hx hb dL_setTimerEvent_10 (by decide) ?_
  refine lv_iconst (v := (0 : Int32)) hx hb dL_setTimerEvent_17 (by decide) ?_
  obtain rfl := Option.some.inj hf
  subst hZ
  exact pw_ri hx hb hr hlocks hK hP hD hS (Nat.le_of_ble_eq_true rfl) (Nat.le_of_ble_eq_true rfl) dL_setTimerEvent_18
abbrev rmL_isHidden : Room := { frames := 7, cells := 1, slots := 6, locals := 111 }
set_option maxHeartbeats 4000000 in
set_option maxRecDepth 100000 in
theorem c_L_isHidden {l : Launch} {D : va_G} {ad : Nat → Nat} {ca : Nat → ClassId} {oq : Nat} {oc : ClassId} (hst : l.stackTraces = false) (fu : Nat) (c_states c_transitions : Int32) (c_timerEvent c_from c_event c_next c_variable c_relation c_number c_actions c_kind c_a c_b : Nat → Int32) (c_present : Int32) (c_now : Int64) (c_emits c_kept c_ignores : Int32) (c_values : Nat → Int32) (c_due : Nat → Int64) (c_outputs c_fired : Nat → Int32) (c_made c_classes c_size c_taken : Int32) (c_stateClass c_finerClass c_usedBits c_offsets c_owners : Nat → Int32) (l_out : Nat → Int64) (v1 : Int32) {o : Int32 × (Nat → Int64)} (hf : L_isHidden fu c_transitions c_from c_event c_variable c_relation c_number l_out v1 = some o) : Li l yL_isHidden wsL_isHidden rmL_isHidden D (CT ca ++ (OT oc)) (CW ad ca c_states c_transitions c_timerEvent c_from c_event c_next c_variable c_relation c_number c_actions c_kind c_a c_b c_present c_now c_emits c_kept c_ignores c_values c_due c_outputs c_fired c_made c_classes c_size c_taken c_stateClass c_finerClass c_usedBits c_offsets c_owners ++ (OW oq oc l_out)) [.ref (ad 0), .int v1, .ref oq] o.1 (CW ad ca c_states c_transitions c_timerEvent c_from c_event c_next c_variable c_relation c_number c_actions c_kind c_a c_b c_present c_now c_emits c_kept c_ignores c_values c_due c_outputs c_fired c_made c_classes c_size c_taken c_stateClass c_finerClass c_usedBits c_offsets c_owners ++ (OW oq oc o.2)) := by
  intro sz
  refine pl_entry (Qc := fun A => pw_Qi D (CT ca ++ (OT oc)) (CW ad ca c_states c_transitions c_timerEvent c_from c_event c_next c_variable c_relation c_number c_actions c_kind c_a c_b c_present c_now c_emits c_kept c_ignores c_values c_due c_outputs c_fired c_made c_classes c_size c_taken c_stateClass c_finerClass c_usedBits c_offsets c_owners ++ (OW oq oc o.2)) A o.1) (cc := cL_isHidden) (maxL := 4) (ret := (some .int)) (hh := [(0, 16, 19, 19)]) (by decide) rfl (Nat.le_of_ble_eq_true rfl) ?_ sz
  intro p e s m args below meth c A ls Z H locs hx hb hr hlocks hts hown hml hK hP hD hS hA hl hT htab hZ
  have hown : s.vm.findClass RL = some m.cls := hown
  have kl19 := hts (.classLink RL 19 "java/lang/IndexOutOfBoundsException") (by decide +kernel)
  have hl : lv_has ls 4 [(0, .ref (ad 0)), (1, .int v1), (2, .ref oq)] := hl
  unfold L_isHidden at hf
  refine lv_aload_n hx hb dL_isHidden_0 rfl (lv_at hl 2 rfl) ?_
  refine lv_iconst (v := (0 : Int32)) hx hb dL_isHidden_1 (by decide) ?_
  refine lv_aload_n hx hb dL_isHidden_2 rfl (lv_at hl 0 rfl) ?_
  refine lv_iload_n hx hb dL_isHidden_3 rfl (lv_at hl 1 rfl) ?_
  obtain ⟨x4, hg4, hfx, hfr⟩ := pr_x hf
  have hKc := hK.sub (tys' := (CT ca)) [0, 1, 2, 3, 4, 5, 6, 7, 8, 9, 10, 11, 12, 13, 14, 15, 16, 17, 18, 19] rfl
  refine px_cViP (b := ad 0) (As := [.int v1]) (rest := [.int (0 : Int32), .ref oq]) ⟨hx, hb, hml, hown, hts⟩ (c_X3_isHidden hst fu (D := D) c_states c_transitions c_timerEvent c_from c_event c_next c_variable c_relation c_number c_actions c_kind c_a c_b c_present c_now c_emits c_kept c_ignores c_values c_due c_outputs c_fired c_made c_classes c_size c_taken c_stateClass c_finerClass c_usedBits c_offsets c_owners v1 hg4) (cwV 1 hts gL_isHidden_X3_isHidden rfl rfl rfl (by decide +kernel) ⟨Nat.le_of_ble_eq_true rfl, Nat.le_of_ble_eq_true rfl⟩) 0 3 rfl rfl hKc hP hD hS hA [0, 1, 2, 3, 4, 5, 6, 7, 8, 9, 10, 11, 12, 13, 14, 15, 16, 17, 18, 19, 20, 21, 22, 23] [24] rfl rfl (by decide) (by decide) (by decide) hT rfl hl.1 rfl (Nat.le_of_ble_eq_true rfl) dL_isHidden_4 ⟨Nat.le_of_ble_eq_true rfl, Nat.le_of_ble_eq_true rfl⟩ (fun E ce q9 H locs ho hP hD hS hq1 hq2 hq3 => ?_) (fun u H locs ho hP hD hS => ?_)
  · have hf := hfx E ho
    have hP := hP.sub (ws' := (CW ad ca c_states c_transitions c_timerEvent c_from c_event c_next c_variable c_relation c_number c_actions c_kind c_a c_b c_present c_now c_emits c_kept c_ignores c_values c_due c_outputs c_fired c_made c_classes c_size c_taken c_stateClass c_finerClass c_usedBits c_offsets c_owners ++ (OW oq oc l_out))) [1, 2, 3, 4, 5, 6, 7, 8, 9, 10, 11, 12, 13, 14, 15, 16, 17, 18, 19, 20, 21, 22, 23, 24, 0] rfl
    have hD := hD.sub (ws' := (CW ad ca c_states c_transitions c_timerEvent c_from c_event c_next c_variable c_relation c_number c_actions c_kind c_a c_b c_present c_now c_emits c_kept c_ignores c_values c_due c_outputs c_fired c_made c_classes c_size c_taken c_stateClass c_finerClass c_usedBits c_offsets c_owners ++ (OW oq oc l_out))) [1, 2, 3, 4, 5, 6, 7, 8, 9, 10, 11, 12, 13, 14, 15, 16, 17, 18, 19, 20, 21, 22, 23, 24, 0] (by decide) rfl
    by_cases hE0 : E = "java/lang/IndexOutOfBoundsException"
    · subst hE0
      have hf := pr_t hf rfl
      refine vx_catch (name := "java/lang/IndexOutOfBoundsException") hown [] ⟨0, 16, 19, 19⟩ [] (by rw [htab]; rfl) (fun z => (fun hz => by cases hz)) (by decide) (by decide) kl19 (va_Nw.use rfl (hT.2.2.2.1 _ (by decide +kernel))) hq1 hq2 hq3 ?_
      refine W.eq (g2 := F0 m 19 ls [.ref q9]) rfl ?_
      refine lv_astore_n (lv' := [(3, .ref q9), (0, .ref (ad 0)), (1, .int v1), (2, .ref oq)]) hx hb dL_isHidden_19 rfl hl (by decide) rfl (fun ls hl => ?_)
      refine lv_iconst (v := (1 : Int32)) hx hb dL_isHidden_20 (by decide) ?_
      obtain rfl := Option.some.inj hf
      subst hZ
      exact pw_ri hx hb hr hlocks hK hP hD hS (Nat.le_of_ble_eq_true rfl) (Nat.le_of_ble_eq_true rfl) dL_isHidden_21
    have hf := pr_f hf hE0
    exact pr_n hf
  have hf := hfr u ho
  have hP := hP.sub (ws' := (CW ad ca c_states c_transitions c_timerEvent c_from c_event c_next c_variable c_relation c_number c_actions c_kind c_a c_b c_present c_now c_emits c_kept c_ignores c_values c_due c_outputs c_fired c_made c_classes c_size c_taken c_stateClass c_finerClass c_usedBits c_offsets c_owners ++ (OW oq oc l_out))) [1, 2, 3, 4, 5, 6, 7, 8, 9, 10, 11, 12, 13, 14, 15, 16, 17, 18, 19, 20, 21, 22, 23, 24, 0] rfl
  have hD := hD.sub (ws' := (CW ad ca c_states c_transitions c_timerEvent c_from c_event c_next c_variable c_relation c_number c_actions c_kind c_a c_b c_present c_now c_emits c_kept c_ignores c_values c_due c_outputs c_fired c_made c_classes c_size c_taken c_stateClass c_finerClass c_usedBits c_offsets c_owners ++ (OW oq oc l_out))) [1, 2, 3, 4, 5, 6, 7, 8, 9, 10, 11, 12, 13, 14, 15, 16, 17, 18, 19, 20, 21, 22, 23, 24, 0] (by decide) rfl
  refine lv_if_eq (tgt := 14) hx hb dL_isHidden_7 (by decide) (fun hc => ?_) (fun hc => ?_)
  · have hf := pr_t hf hc
    refine lv_lconst (v := (0 : Int64)) hx hb dL_isHidden_14 (by decide) ?_
    refine va_last hx hb hK hP hD hS 24 20 rfl rfl (by unfold vp_in; decide) dL_isHidden_15 (fun H locs hP hD hS => ?_)
    have hP : va_P D vwCl (CW ad ca c_states c_transitions c_timerEvent c_from c_event c_next c_variable c_relation c_number c_actions c_kind c_a c_b c_present c_now c_emits c_kept c_ignores c_values c_due c_outputs c_fired c_made c_classes c_size c_taken c_stateClass c_finerClass c_usedBits c_offsets c_owners ++ (OW oq oc (vp_updL l_out (0 : Int32).toNatClampNeg (0 : Int64)))) H := hP
    have hD : va_D A (CW ad ca c_states c_transitions c_timerEvent c_from c_event c_next c_variable c_relation c_number c_actions c_kind c_a c_b c_present c_now c_emits c_kept c_ignores c_values c_due c_outputs c_fired c_made c_classes c_size c_taken c_stateClass c_finerClass c_usedBits c_offsets c_owners ++ (OW oq oc (vp_updL l_out (0 : Int32).toNatClampNeg (0 : Int64)))) := hD
    refine lv_goto (tgt := 22) hx hb dL_isHidden_16 (by decide) ?_
    refine lv_iconst (v := (0 : Int32)) hx hb dL_isHidden_22 (by decide) ?_
    obtain rfl := Option.some.inj hf
    subst hZ
    exact pw_ri hx hb hr hlocks hK hP hD hS (Nat.le_of_ble_eq_true rfl) (Nat.le_of_ble_eq_true rfl) dL_isHidden_23
  · have hf := pr_f hf hc
    refine lv_lconst (v := (1 : Int64)) hx hb dL_isHidden_10 (by decide) ?_
    refine lv_goto (tgt := 15) hx hb dL_isHidden_11 (by decide) ?_
    refine va_last hx hb hK hP hD hS 24 20 rfl rfl (by unfold vp_in; decide) dL_isHidden_15 (fun H locs hP hD hS => ?_)
    have hP : va_P D vwCl (CW ad ca c_states c_transitions c_timerEvent c_from c_event c_next c_variable c_relation c_number c_actions c_kind c_a c_b c_present c_now c_emits c_kept c_ignores c_values c_due c_outputs c_fired c_made c_classes c_size c_taken c_stateClass c_finerClass c_usedBits c_offsets c_owners ++ (OW oq oc (vp_updL l_out (0 : Int32).toNatClampNeg (1 : Int64)))) H := hP
    have hD : va_D A (CW ad ca c_states c_transitions c_timerEvent c_from c_event c_next c_variable c_relation c_number c_actions c_kind c_a c_b c_present c_now c_emits c_kept c_ignores c_values c_due c_outputs c_fired c_made c_classes c_size c_taken c_stateClass c_finerClass c_usedBits c_offsets c_owners ++ (OW oq oc (vp_updL l_out (0 : Int32).toNatClampNeg (1 : Int64)))) := hD
    refine lv_goto (tgt := 22) hx hb dL_isHidden_16 (by decide) ?_
    refine lv_iconst (v := (0 : Int32)) hx hb dL_isHidden_22 (by decide) ?_
    obtain rfl := Option.some.inj hf
    subst hZ
    exact pw_ri hx hb hr hlocks hK hP hD hS (Nat.le_of_ble_eq_true rfl) (Nat.le_of_ble_eq_true rfl) dL_isHidden_23
abbrev rmL_happen : Room := { frames := 7, cells := 1, slots := 6, locals := 111 }
set_option maxHeartbeats 4000000 in
set_option maxRecDepth 100000 in
theorem c_L_happen {l : Launch} {D : va_G} {ad : Nat → Nat} {ca : Nat → ClassId} {oq : Nat} {oc : ClassId} (hst : l.stackTraces = false) (fu : Nat) (c_states c_transitions : Int32) (c_timerEvent c_from c_event c_next c_variable c_relation c_number c_actions c_kind c_a c_b : Nat → Int32) (c_present : Int32) (c_now : Int64) (c_emits c_kept c_ignores : Int32) (c_values : Nat → Int32) (c_due : Nat → Int64) (c_outputs c_fired : Nat → Int32) (c_made c_classes c_size c_taken : Int32) (c_stateClass c_finerClass c_usedBits c_offsets c_owners : Nat → Int32) (l_out : Nat → Int64) (v1 : Int32) {o : Int32 × Int32 × Int32 × Int32 × Int32 × (Nat → Int32) × (Nat → Int64) × (Nat → Int32) × (Nat → Int32) × (Nat → Int64)} (hf : L_happen fu c_transitions c_from c_event c_next c_variable c_relation c_number c_actions c_kind c_a c_b c_present c_now c_emits c_kept c_ignores c_values c_due c_outputs c_fired l_out v1 = some o) : Li l yL_happen wsL_happen rmL_happen D (CT ca ++ (OT oc)) (CW ad ca c_states c_transitions c_timerEvent c_from c_event c_next c_variable c_relation c_number c_actions c_kind c_a c_b c_present c_now c_emits c_kept c_ignores c_values c_due c_outputs c_fired c_made c_classes c_size c_taken c_stateClass c_finerClass c_usedBits c_offsets c_owners ++ (OW oq oc l_out)) [.ref (ad 0), .int v1, .ref oq] o.1 (CW ad ca c_states c_transitions c_timerEvent c_from c_event c_next c_variable c_relation c_number c_actions c_kind c_a c_b o.2.1 c_now o.2.2.1 o.2.2.2.1 o.2.2.2.2.1 o.2.2.2.2.2.1 o.2.2.2.2.2.2.1 o.2.2.2.2.2.2.2.1 o.2.2.2.2.2.2.2.2.1 c_made c_classes c_size c_taken c_stateClass c_finerClass c_usedBits c_offsets c_owners ++ (OW oq oc o.2.2.2.2.2.2.2.2.2)) := by
  intro sz
  refine pl_entry (Qc := fun A => pw_Qi D (CT ca ++ (OT oc)) (CW ad ca c_states c_transitions c_timerEvent c_from c_event c_next c_variable c_relation c_number c_actions c_kind c_a c_b o.2.1 c_now o.2.2.1 o.2.2.2.1 o.2.2.2.2.1 o.2.2.2.2.2.1 o.2.2.2.2.2.2.1 o.2.2.2.2.2.2.2.1 o.2.2.2.2.2.2.2.2.1 c_made c_classes c_size c_taken c_stateClass c_finerClass c_usedBits c_offsets c_owners ++ (OW oq oc o.2.2.2.2.2.2.2.2.2)) A o.1) (cc := cL_happen) (maxL := 4) (ret := (some .int)) (hh := [(0, 9, 12, 19)]) (by decide) rfl (Nat.le_of_ble_eq_true rfl) ?_ sz
  intro p e s m args below meth c A ls Z H locs hx hb hr hlocks hts hown hml hK hP hD hS hA hl hT htab hZ
  have hown : s.vm.findClass RL = some m.cls := hown
  have kl19 := hts (.classLink RL 19 "java/lang/IndexOutOfBoundsException") (by decide +kernel)
  have hl : lv_has ls 4 [(0, .ref (ad 0)), (1, .int v1), (2, .ref oq)] := hl
  unfold L_happen at hf
  refine lv_aload_n hx hb dL_happen_0 rfl (lv_at hl 2 rfl) ?_
  refine lv_iconst (v := (0 : Int32)) hx hb dL_happen_1 (by decide) ?_
  refine lv_aload_n hx hb dL_happen_2 rfl (lv_at hl 0 rfl) ?_
  refine lv_iload_n hx hb dL_happen_3 rfl (lv_at hl 1 rfl) ?_
  obtain ⟨x4, hg4, hfx, hfr⟩ := pr_x hf
  have hKc := hK.sub (tys' := (CT ca)) [0, 1, 2, 3, 4, 5, 6, 7, 8, 9, 10, 11, 12, 13, 14, 15, 16, 17, 18, 19] rfl
  refine px_cViP (b := ad 0) (As := [.int v1]) (rest := [.int (0 : Int32), .ref oq]) ⟨hx, hb, hml, hown, hts⟩ (c_X3_happen hst fu (D := D) c_states c_transitions c_timerEvent c_from c_event c_next c_variable c_relation c_number c_actions c_kind c_a c_b c_present c_now c_emits c_kept c_ignores c_values c_due c_outputs c_fired c_made c_classes c_size c_taken c_stateClass c_finerClass c_usedBits c_offsets c_owners v1 hg4) (cwV 1 hts gL_happen_X3_happen rfl rfl rfl (by decide +kernel) ⟨Nat.le_of_ble_eq_true rfl, Nat.le_of_ble_eq_true rfl⟩) 0 3 rfl rfl hKc hP hD hS hA [0, 1, 2, 3, 4, 5, 6, 7, 8, 9, 10, 11, 12, 13, 14, 15, 16, 17, 18, 19, 20, 21, 22, 23] [24] rfl rfl (by decide) (by decide) (by decide) hT rfl hl.1 rfl (Nat.le_of_ble_eq_true rfl) dL_happen_4 ⟨Nat.le_of_ble_eq_true rfl, Nat.le_of_ble_eq_true rfl⟩ (fun E ce q9 H locs ho hP hD hS hq1 hq2 hq3 => ?_) (fun u H locs ho hP hD hS => ?_)
  · have hf := hfx E ho
    have hP := hP.sub (ws' := (CW ad ca c_states c_transitions c_timerEvent c_from c_event c_next c_variable c_relation c_number c_actions c_kind c_a c_b c_present c_now c_emits c_kept c_ignores c_values c_due c_outputs c_fired c_made c_classes c_size c_taken c_stateClass c_finerClass c_usedBits c_offsets c_owners ++ (OW oq oc l_out))) [1, 2, 3, 4, 5, 6, 7, 8, 9, 10, 11, 12, 13, 14, 15, 16, 17, 18, 19, 20, 21, 22, 23, 24, 0] rfl
    have hD := hD.sub (ws' := (CW ad ca c_states c_transitions c_timerEvent c_from c_event c_next c_variable c_relation c_number c_actions c_kind c_a c_b c_present c_now c_emits c_kept c_ignores c_values c_due c_outputs c_fired c_made c_classes c_size c_taken c_stateClass c_finerClass c_usedBits c_offsets c_owners ++ (OW oq oc l_out))) [1, 2, 3, 4, 5, 6, 7, 8, 9, 10, 11, 12, 13, 14, 15, 16, 17, 18, 19, 20, 21, 22, 23, 24, 0] (by decide) rfl
    by_cases hE0 : E = "java/lang/IndexOutOfBoundsException"
    · subst hE0
      have hf := pr_t hf rfl
      refine vx_catch (name := "java/lang/IndexOutOfBoundsException") hown [] ⟨0, 9, 12, 19⟩ [] (by rw [htab]; rfl) (fun z => (fun hz => by cases hz)) (by decide) (by decide) kl19 (va_Nw.use rfl (hT.2.2.2.1 _ (by decide +kernel))) hq1 hq2 hq3 ?_
      refine W.eq (g2 := F0 m 12 ls [.ref q9]) rfl ?_
      refine lv_astore_n (lv' := [(3, .ref q9), (0, .ref (ad 0)), (1, .int v1), (2, .ref oq)]) hx hb dL_happen_12 rfl hl (by decide) rfl (fun ls hl => ?_)
      refine lv_iconst (v := (1 : Int32)) hx hb dL_happen_13 (by decide) ?_
      obtain rfl := Option.some.inj hf
      subst hZ
      exact pw_ri hx hb hr hlocks hK hP hD hS (Nat.le_of_ble_eq_true rfl) (Nat.le_of_ble_eq_true rfl) dL_happen_14
    have hf := pr_f hf hE0
    exact pr_n hf
  have hf := hfr u ho
  have hP := hP.sub (ws' := (CW ad ca c_states c_transitions c_timerEvent c_from c_event c_next c_variable c_relation c_number c_actions c_kind c_a c_b u.2.1 c_now u.2.2.1 u.2.2.2.1 u.2.2.2.2.1 u.2.2.2.2.2.1 u.2.2.2.2.2.2.1 u.2.2.2.2.2.2.2.1 u.2.2.2.2.2.2.2.2 c_made c_classes c_size c_taken c_stateClass c_finerClass c_usedBits c_offsets c_owners ++ (OW oq oc l_out))) [1, 2, 3, 4, 5, 6, 7, 8, 9, 10, 11, 12, 13, 14, 15, 16, 17, 18, 19, 20, 21, 22, 23, 24, 0] rfl
  have hD := hD.sub (ws' := (CW ad ca c_states c_transitions c_timerEvent c_from c_event c_next c_variable c_relation c_number c_actions c_kind c_a c_b u.2.1 c_now u.2.2.1 u.2.2.2.1 u.2.2.2.2.1 u.2.2.2.2.2.1 u.2.2.2.2.2.2.1 u.2.2.2.2.2.2.2.1 u.2.2.2.2.2.2.2.2 c_made c_classes c_size c_taken c_stateClass c_finerClass c_usedBits c_offsets c_owners ++ (OW oq oc l_out))) [1, 2, 3, 4, 5, 6, 7, 8, 9, 10, 11, 12, 13, 14, 15, 16, 17, 18, 19, 20, 21, 22, 23, 24, 0] (by decide) rfl
  refine lv_i2l (v := u.1.toInt64) hx hb dL_happen_7 rfl ?_
  refine va_last hx hb hK hP hD hS 24 20 rfl rfl (by unfold vp_in; decide) dL_happen_8 (fun H locs hP hD hS => ?_)
  have hP : va_P D vwCl (CW ad ca c_states c_transitions c_timerEvent c_from c_event c_next c_variable c_relation c_number c_actions c_kind c_a c_b u.2.1 c_now u.2.2.1 u.2.2.2.1 u.2.2.2.2.1 u.2.2.2.2.2.1 u.2.2.2.2.2.2.1 u.2.2.2.2.2.2.2.1 u.2.2.2.2.2.2.2.2 c_made c_classes c_size c_taken c_stateClass c_finerClass c_usedBits c_offsets c_owners ++ (OW oq oc (vp_updL l_out (0 : Int32).toNatClampNeg u.1.toInt64))) H := hP
  have hD : va_D A (CW ad ca c_states c_transitions c_timerEvent c_from c_event c_next c_variable c_relation c_number c_actions c_kind c_a c_b u.2.1 c_now u.2.2.1 u.2.2.2.1 u.2.2.2.2.1 u.2.2.2.2.2.1 u.2.2.2.2.2.2.1 u.2.2.2.2.2.2.2.1 u.2.2.2.2.2.2.2.2 c_made c_classes c_size c_taken c_stateClass c_finerClass c_usedBits c_offsets c_owners ++ (OW oq oc (vp_updL l_out (0 : Int32).toNatClampNeg u.1.toInt64))) := hD
  refine lv_goto (tgt := 15) hx hb dL_happen_9 (by decide) ?_
  refine lv_iconst (v := (0 : Int32)) hx hb dL_happen_15 (by decide) ?_
  obtain rfl := Option.some.inj hf
  subst hZ
  exact pw_ri hx hb hr hlocks hK hP hD hS (Nat.le_of_ble_eq_true rfl) (Nat.le_of_ble_eq_true rfl) dL_happen_16
abbrev rmL_advance : Room := { frames := 7, cells := 1, slots := 6, locals := 135 }
set_option maxHeartbeats 4000000 in
set_option maxRecDepth 100000 in
theorem c_L_advance {l : Launch} {D : va_G} {ad : Nat → Nat} {ca : Nat → ClassId} {oq : Nat} {oc : ClassId} (hst : l.stackTraces = false) (fu : Nat) (c_states c_transitions : Int32) (c_timerEvent c_from c_event c_next c_variable c_relation c_number c_actions c_kind c_a c_b : Nat → Int32) (c_present : Int32) (c_now : Int64) (c_emits c_kept c_ignores : Int32) (c_values : Nat → Int32) (c_due : Nat → Int64) (c_outputs c_fired : Nat → Int32) (c_made c_classes c_size c_taken : Int32) (c_stateClass c_finerClass c_usedBits c_offsets c_owners : Nat → Int32) (l_out : Nat → Int64) (v1 : Int32) {o : Int32 × Int32 × Int64 × Int32 × Int32 × Int32 × (Nat → Int32) × (Nat → Int64) × (Nat → Int32) × (Nat → Int32) × (Nat → Int64)} (hf : L_advance fu c_transitions c_timerEvent c_from c_event c_next c_variable c_relation c_number c_actions c_kind c_a c_b c_present c_now c_emits c_kept c_ignores c_values c_due c_outputs c_fired l_out v1 = some o) : Li l yL_advance wsL_advance rmL_advance D (CT ca ++ (OT oc)) (CW ad ca c_states c_transitions c_timerEvent c_from c_event c_next c_variable c_relation c_number c_actions c_kind c_a c_b c_present c_now c_emits c_kept c_ignores c_values c_due c_outputs c_fired c_made c_classes c_size c_taken c_stateClass c_finerClass c_usedBits c_offsets c_owners ++ (OW oq oc l_out)) [.ref (ad 0), .int v1, .ref oq] o.1 (CW ad ca c_states c_transitions c_timerEvent c_from c_event c_next c_variable c_relation c_number c_actions c_kind c_a c_b o.2.1 o.2.2.1 o.2.2.2.1 o.2.2.2.2.1 o.2.2.2.2.2.1 o.2.2.2.2.2.2.1 o.2.2.2.2.2.2.2.1 o.2.2.2.2.2.2.2.2.1 o.2.2.2.2.2.2.2.2.2.1 c_made c_classes c_size c_taken c_stateClass c_finerClass c_usedBits c_offsets c_owners ++ (OW oq oc o.2.2.2.2.2.2.2.2.2.2)) := by
  intro sz
  refine pl_entry (Qc := fun A => pw_Qi D (CT ca ++ (OT oc)) (CW ad ca c_states c_transitions c_timerEvent c_from c_event c_next c_variable c_relation c_number c_actions c_kind c_a c_b o.2.1 o.2.2.1 o.2.2.2.1 o.2.2.2.2.1 o.2.2.2.2.2.1 o.2.2.2.2.2.2.1 o.2.2.2.2.2.2.2.1 o.2.2.2.2.2.2.2.2.1 o.2.2.2.2.2.2.2.2.2.1 c_made c_classes c_size c_taken c_stateClass c_finerClass c_usedBits c_offsets c_owners ++ (OW oq oc o.2.2.2.2.2.2.2.2.2.2)) A o.1) (cc := cL_advance) (maxL := 4) (ret := (some .int)) (hh := [(0, 9, 12, 21)]) (by decide) rfl (Nat.le_of_ble_eq_true rfl) ?_ sz
  intro p e s m args below meth c A ls Z H locs hx hb hr hlocks hts hown hml hK hP hD hS hA hl hT htab hZ
  have hown : s.vm.findClass RL = some m.cls := hown
  have kl21 := hts (.classLink RL 21 "java/lang/IllegalArgumentException") (by decide +kernel)
  have hl : lv_has ls 4 [(0, .ref (ad 0)), (1, .int v1), (2, .ref oq)] := hl
  unfold L_advance at hf
  refine lv_aload_n hx hb dL_advance_0 rfl (lv_at hl 2 rfl) ?_
  refine lv_iconst (v := (0 : Int32)) hx hb dL_advance_1 (by decide) ?_
  refine lv_aload_n hx hb dL_advance_2 rfl (lv_at hl 0 rfl) ?_
  refine lv_iload_n hx hb dL_advance_3 rfl (lv_at hl 1 rfl) ?_
  obtain ⟨x4, hg4, hfx, hfr⟩ := pr_x hf
  have hKc := hK.sub (tys' := (CT ca)) [0, 1, 2, 3, 4, 5, 6, 7, 8, 9, 10, 11, 12, 13, 14, 15, 16, 17, 18, 19] rfl
  refine px_cViP (b := ad 0) (As := [.int v1]) (rest := [.int (0 : Int32), .ref oq]) ⟨hx, hb, hml, hown, hts⟩ (c_X3_advance hst fu (D := D) c_states c_transitions c_timerEvent c_from c_event c_next c_variable c_relation c_number c_actions c_kind c_a c_b c_present c_now c_emits c_kept c_ignores c_values c_due c_outputs c_fired c_made c_classes c_size c_taken c_stateClass c_finerClass c_usedBits c_offsets c_owners v1 hg4) (cwV 1 hts gL_advance_X3_advance rfl rfl rfl (by decide +kernel) ⟨Nat.le_of_ble_eq_true rfl, Nat.le_of_ble_eq_true rfl⟩) 0 3 rfl rfl hKc hP hD hS hA [0, 1, 2, 3, 4, 5, 6, 7, 8, 9, 10, 11, 12, 13, 14, 15, 16, 17, 18, 19, 20, 21, 22, 23] [24] rfl rfl (by decide) (by decide) (by decide) hT rfl hl.1 rfl (Nat.le_of_ble_eq_true rfl) dL_advance_4 ⟨Nat.le_of_ble_eq_true rfl, Nat.le_of_ble_eq_true rfl⟩ (fun E ce q9 H locs ho hP hD hS hq1 hq2 hq3 => ?_) (fun u H locs ho hP hD hS => ?_)
  · have hf := hfx E ho
    have hP := hP.sub (ws' := (CW ad ca c_states c_transitions c_timerEvent c_from c_event c_next c_variable c_relation c_number c_actions c_kind c_a c_b c_present c_now c_emits c_kept c_ignores c_values c_due c_outputs c_fired c_made c_classes c_size c_taken c_stateClass c_finerClass c_usedBits c_offsets c_owners ++ (OW oq oc l_out))) [1, 2, 3, 4, 5, 6, 7, 8, 9, 10, 11, 12, 13, 14, 15, 16, 17, 18, 19, 20, 21, 22, 23, 24, 0] rfl
    have hD := hD.sub (ws' := (CW ad ca c_states c_transitions c_timerEvent c_from c_event c_next c_variable c_relation c_number c_actions c_kind c_a c_b c_present c_now c_emits c_kept c_ignores c_values c_due c_outputs c_fired c_made c_classes c_size c_taken c_stateClass c_finerClass c_usedBits c_offsets c_owners ++ (OW oq oc l_out))) [1, 2, 3, 4, 5, 6, 7, 8, 9, 10, 11, 12, 13, 14, 15, 16, 17, 18, 19, 20, 21, 22, 23, 24, 0] (by decide) rfl
    by_cases hE0 : E = "java/lang/IllegalArgumentException"
    · subst hE0
      have hf := pr_t hf rfl
      refine vx_catch (name := "java/lang/IllegalArgumentException") hown [] ⟨0, 9, 12, 21⟩ [] (by rw [htab]; rfl) (fun z => (fun hz => by cases hz)) (by decide) (by decide) kl21 (va_Nw.use rfl (hT.2.2.2.1 _ (by decide +kernel))) hq1 hq2 hq3 ?_
      refine W.eq (g2 := F0 m 12 ls [.ref q9]) rfl ?_
      refine lv_astore_n (lv' := [(3, .ref q9), (0, .ref (ad 0)), (1, .int v1), (2, .ref oq)]) hx hb dL_advance_12 rfl hl (by decide) rfl (fun ls hl => ?_)
      refine lv_iconst (v := (1 : Int32)) hx hb dL_advance_13 (by decide) ?_
      obtain rfl := Option.some.inj hf
      subst hZ
      exact pw_ri hx hb hr hlocks hK hP hD hS (Nat.le_of_ble_eq_true rfl) (Nat.le_of_ble_eq_true rfl) dL_advance_14
    have hf := pr_f hf hE0
    exact pr_n hf
  have hf := hfr u ho
  have hP := hP.sub (ws' := (CW ad ca c_states c_transitions c_timerEvent c_from c_event c_next c_variable c_relation c_number c_actions c_kind c_a c_b u.2.1 u.2.2.1 u.2.2.2.1 u.2.2.2.2.1 u.2.2.2.2.2.1 u.2.2.2.2.2.2.1 u.2.2.2.2.2.2.2.1 u.2.2.2.2.2.2.2.2.1 u.2.2.2.2.2.2.2.2.2 c_made c_classes c_size c_taken c_stateClass c_finerClass c_usedBits c_offsets c_owners ++ (OW oq oc l_out))) [1, 2, 3, 4, 5, 6, 7, 8, 9, 10, 11, 12, 13, 14, 15, 16, 17, 18, 19, 20, 21, 22, 23, 24, 0] rfl
  have hD := hD.sub (ws' := (CW ad ca c_states c_transitions c_timerEvent c_from c_event c_next c_variable c_relation c_number c_actions c_kind c_a c_b u.2.1 u.2.2.1 u.2.2.2.1 u.2.2.2.2.1 u.2.2.2.2.2.1 u.2.2.2.2.2.2.1 u.2.2.2.2.2.2.2.1 u.2.2.2.2.2.2.2.2.1 u.2.2.2.2.2.2.2.2.2 c_made c_classes c_size c_taken c_stateClass c_finerClass c_usedBits c_offsets c_owners ++ (OW oq oc l_out))) [1, 2, 3, 4, 5, 6, 7, 8, 9, 10, 11, 12, 13, 14, 15, 16, 17, 18, 19, 20, 21, 22, 23, 24, 0] (by decide) rfl
  refine lv_i2l (v := u.1.toInt64) hx hb dL_advance_7 rfl ?_
  refine va_last hx hb hK hP hD hS 24 20 rfl rfl (by unfold vp_in; decide) dL_advance_8 (fun H locs hP hD hS => ?_)
  have hP : va_P D vwCl (CW ad ca c_states c_transitions c_timerEvent c_from c_event c_next c_variable c_relation c_number c_actions c_kind c_a c_b u.2.1 u.2.2.1 u.2.2.2.1 u.2.2.2.2.1 u.2.2.2.2.2.1 u.2.2.2.2.2.2.1 u.2.2.2.2.2.2.2.1 u.2.2.2.2.2.2.2.2.1 u.2.2.2.2.2.2.2.2.2 c_made c_classes c_size c_taken c_stateClass c_finerClass c_usedBits c_offsets c_owners ++ (OW oq oc (vp_updL l_out (0 : Int32).toNatClampNeg u.1.toInt64))) H := hP
  have hD : va_D A (CW ad ca c_states c_transitions c_timerEvent c_from c_event c_next c_variable c_relation c_number c_actions c_kind c_a c_b u.2.1 u.2.2.1 u.2.2.2.1 u.2.2.2.2.1 u.2.2.2.2.2.1 u.2.2.2.2.2.2.1 u.2.2.2.2.2.2.2.1 u.2.2.2.2.2.2.2.2.1 u.2.2.2.2.2.2.2.2.2 c_made c_classes c_size c_taken c_stateClass c_finerClass c_usedBits c_offsets c_owners ++ (OW oq oc (vp_updL l_out (0 : Int32).toNatClampNeg u.1.toInt64))) := hD
  refine lv_goto (tgt := 15) hx hb dL_advance_9 (by decide) ?_
  refine lv_iconst (v := (0 : Int32)) hx hb dL_advance_15 (by decide) ?_
  obtain rfl := Option.some.inj hf
  subst hZ
  exact pw_ri hx hb hr hlocks hK hP hD hS (Nat.le_of_ble_eq_true rfl) (Nat.le_of_ble_eq_true rfl) dL_advance_16
abbrev rmL_value : Room := { frames := 7, cells := 1, slots := 6, locals := 111 }
set_option maxHeartbeats 4000000 in
set_option maxRecDepth 100000 in
theorem c_L_value {l : Launch} {D : va_G} {ad : Nat → Nat} {ca : Nat → ClassId} {oq : Nat} {oc : ClassId} (hst : l.stackTraces = false) (c_states c_transitions : Int32) (c_timerEvent c_from c_event c_next c_variable c_relation c_number c_actions c_kind c_a c_b : Nat → Int32) (c_present : Int32) (c_now : Int64) (c_emits c_kept c_ignores : Int32) (c_values : Nat → Int32) (c_due : Nat → Int64) (c_outputs c_fired : Nat → Int32) (c_made c_classes c_size c_taken : Int32) (c_stateClass c_finerClass c_usedBits c_offsets c_owners : Nat → Int32) (l_out : Nat → Int64) (v1 : Int32) {o : Int32 × (Nat → Int64)} (hf : L_value c_values l_out v1 = some o) : Li l yL_value wsL_value rmL_value D (CT ca ++ (OT oc)) (CW ad ca c_states c_transitions c_timerEvent c_from c_event c_next c_variable c_relation c_number c_actions c_kind c_a c_b c_present c_now c_emits c_kept c_ignores c_values c_due c_outputs c_fired c_made c_classes c_size c_taken c_stateClass c_finerClass c_usedBits c_offsets c_owners ++ (OW oq oc l_out)) [.ref (ad 0), .int v1, .ref oq] o.1 (CW ad ca c_states c_transitions c_timerEvent c_from c_event c_next c_variable c_relation c_number c_actions c_kind c_a c_b c_present c_now c_emits c_kept c_ignores c_values c_due c_outputs c_fired c_made c_classes c_size c_taken c_stateClass c_finerClass c_usedBits c_offsets c_owners ++ (OW oq oc o.2)) := by
  intro sz
  refine pl_entry (Qc := fun A => pw_Qi D (CT ca ++ (OT oc)) (CW ad ca c_states c_transitions c_timerEvent c_from c_event c_next c_variable c_relation c_number c_actions c_kind c_a c_b c_present c_now c_emits c_kept c_ignores c_values c_due c_outputs c_fired c_made c_classes c_size c_taken c_stateClass c_finerClass c_usedBits c_offsets c_owners ++ (OW oq oc o.2)) A o.1) (cc := cL_value) (maxL := 4) (ret := (some .int)) (hh := [(0, 9, 12, 19)]) (by decide) rfl (Nat.le_of_ble_eq_true rfl) ?_ sz
  intro p e s m args below meth c A ls Z H locs hx hb hr hlocks hts hown hml hK hP hD hS hA hl hT htab hZ
  have hown : s.vm.findClass RL = some m.cls := hown
  have kl19 := hts (.classLink RL 19 "java/lang/IndexOutOfBoundsException") (by decide +kernel)
  have hl : lv_has ls 4 [(0, .ref (ad 0)), (1, .int v1), (2, .ref oq)] := hl
  unfold L_value at hf
  refine lv_aload_n hx hb dL_value_0 rfl (lv_at hl 2 rfl) ?_
  refine lv_iconst (v := (0 : Int32)) hx hb dL_value_1 (by decide) ?_
  refine lv_aload_n hx hb dL_value_2 rfl (lv_at hl 0 rfl) ?_
  refine lv_iload_n hx hb dL_value_3 rfl (lv_at hl 1 rfl) ?_
  obtain ⟨x4, hg4, hfx, hfr⟩ := pr_x hf
  have hKc := hK.sub (tys' := (CT ca)) [0, 1, 2, 3, 4, 5, 6, 7, 8, 9, 10, 11, 12, 13, 14, 15, 16, 17, 18, 19] rfl
  refine px_cViP (b := ad 0) (As := [.int v1]) (rest := [.int (0 : Int32), .ref oq]) ⟨hx, hb, hml, hown, hts⟩ (c_X3_value hst (D := D) c_states c_transitions c_timerEvent c_from c_event c_next c_variable c_relation c_number c_actions c_kind c_a c_b c_present c_now c_emits c_kept c_ignores c_values c_due c_outputs c_fired c_made c_classes c_size c_taken c_stateClass c_finerClass c_usedBits c_offsets c_owners v1 hg4) (cwV 1 hts gL_value_X3_value rfl rfl rfl (by decide +kernel) ⟨Nat.le_of_ble_eq_true rfl, Nat.le_of_ble_eq_true rfl⟩) 0 3 rfl rfl hKc hP hD hS hA [0, 1, 2, 3, 4, 5, 6, 7, 8, 9, 10, 11, 12, 13, 14, 15, 16, 17, 18, 19, 20, 21, 22, 23] [24] rfl rfl (by decide) (by decide) (by decide) hT rfl hl.1 rfl (Nat.le_of_ble_eq_true rfl) dL_value_4 ⟨Nat.le_of_ble_eq_true rfl, Nat.le_of_ble_eq_true rfl⟩ (fun E ce q9 H locs ho hP hD hS hq1 hq2 hq3 => ?_) (fun u H locs ho hP hD hS => ?_)
  · have hf := hfx E ho
    have hP := hP.sub (ws' := (CW ad ca c_states c_transitions c_timerEvent c_from c_event c_next c_variable c_relation c_number c_actions c_kind c_a c_b c_present c_now c_emits c_kept c_ignores c_values c_due c_outputs c_fired c_made c_classes c_size c_taken c_stateClass c_finerClass c_usedBits c_offsets c_owners ++ (OW oq oc l_out))) [1, 2, 3, 4, 5, 6, 7, 8, 9, 10, 11, 12, 13, 14, 15, 16, 17, 18, 19, 20, 21, 22, 23, 24, 0] rfl
    have hD := hD.sub (ws' := (CW ad ca c_states c_transitions c_timerEvent c_from c_event c_next c_variable c_relation c_number c_actions c_kind c_a c_b c_present c_now c_emits c_kept c_ignores c_values c_due c_outputs c_fired c_made c_classes c_size c_taken c_stateClass c_finerClass c_usedBits c_offsets c_owners ++ (OW oq oc l_out))) [1, 2, 3, 4, 5, 6, 7, 8, 9, 10, 11, 12, 13, 14, 15, 16, 17, 18, 19, 20, 21, 22, 23, 24, 0] (by decide) rfl
    by_cases hE0 : E = "java/lang/IndexOutOfBoundsException"
    · subst hE0
      have hf := pr_t hf rfl
      refine vx_catch (name := "java/lang/IndexOutOfBoundsException") hown [] ⟨0, 9, 12, 19⟩ [] (by rw [htab]; rfl) (fun z => (fun hz => by cases hz)) (by decide) (by decide) kl19 (va_Nw.use rfl (hT.2.2.2.1 _ (by decide +kernel))) hq1 hq2 hq3 ?_
      refine W.eq (g2 := F0 m 12 ls [.ref q9]) rfl ?_
      refine lv_astore_n (lv' := [(3, .ref q9), (0, .ref (ad 0)), (1, .int v1), (2, .ref oq)]) hx hb dL_value_12 rfl hl (by decide) rfl (fun ls hl => ?_)
      refine lv_iconst (v := (1 : Int32)) hx hb dL_value_13 (by decide) ?_
      obtain rfl := Option.some.inj hf
      subst hZ
      exact pw_ri hx hb hr hlocks hK hP hD hS (Nat.le_of_ble_eq_true rfl) (Nat.le_of_ble_eq_true rfl) dL_value_14
    have hf := pr_f hf hE0
    exact pr_n hf
  have hf := hfr u ho
  have hP := hP.sub (ws' := (CW ad ca c_states c_transitions c_timerEvent c_from c_event c_next c_variable c_relation c_number c_actions c_kind c_a c_b c_present c_now c_emits c_kept c_ignores c_values c_due c_outputs c_fired c_made c_classes c_size c_taken c_stateClass c_finerClass c_usedBits c_offsets c_owners ++ (OW oq oc l_out))) [1, 2, 3, 4, 5, 6, 7, 8, 9, 10, 11, 12, 13, 14, 15, 16, 17, 18, 19, 20, 21, 22, 23, 24, 0] rfl
  have hD := hD.sub (ws' := (CW ad ca c_states c_transitions c_timerEvent c_from c_event c_next c_variable c_relation c_number c_actions c_kind c_a c_b c_present c_now c_emits c_kept c_ignores c_values c_due c_outputs c_fired c_made c_classes c_size c_taken c_stateClass c_finerClass c_usedBits c_offsets c_owners ++ (OW oq oc l_out))) [1, 2, 3, 4, 5, 6, 7, 8, 9, 10, 11, 12, 13, 14, 15, 16, 17, 18, 19, 20, 21, 22, 23, 24, 0] (by decide) rfl
  refine lv_i2l (v := u.toInt64) hx hb dL_value_7 rfl ?_
  refine va_last hx hb hK hP hD hS 24 20 rfl rfl (by unfold vp_in; decide) dL_value_8 (fun H locs hP hD hS => ?_)
  have hP : va_P D vwCl (CW ad ca c_states c_transitions c_timerEvent c_from c_event c_next c_variable c_relation c_number c_actions c_kind c_a c_b c_present c_now c_emits c_kept c_ignores c_values c_due c_outputs c_fired c_made c_classes c_size c_taken c_stateClass c_finerClass c_usedBits c_offsets c_owners ++ (OW oq oc (vp_updL l_out (0 : Int32).toNatClampNeg u.toInt64))) H := hP
  have hD : va_D A (CW ad ca c_states c_transitions c_timerEvent c_from c_event c_next c_variable c_relation c_number c_actions c_kind c_a c_b c_present c_now c_emits c_kept c_ignores c_values c_due c_outputs c_fired c_made c_classes c_size c_taken c_stateClass c_finerClass c_usedBits c_offsets c_owners ++ (OW oq oc (vp_updL l_out (0 : Int32).toNatClampNeg u.toInt64))) := hD
  refine lv_goto (tgt := 15) hx hb dL_value_9 (by decide) ?_
  refine lv_iconst (v := (0 : Int32)) hx hb dL_value_15 (by decide) ?_
  obtain rfl := Option.some.inj hf
  subst hZ
  exact pw_ri hx hb hr hlocks hK hP hD hS (Nat.le_of_ble_eq_true rfl) (Nat.le_of_ble_eq_true rfl) dL_value_16
abbrev rmL_left : Room := { frames := 7, cells := 1, slots := 6, locals := 111 }
set_option maxHeartbeats 4000000 in
set_option maxRecDepth 100000 in
theorem c_L_left {l : Launch} {D : va_G} {ad : Nat → Nat} {ca : Nat → ClassId} {oq : Nat} {oc : ClassId} (hst : l.stackTraces = false) (c_states c_transitions : Int32) (c_timerEvent c_from c_event c_next c_variable c_relation c_number c_actions c_kind c_a c_b : Nat → Int32) (c_present : Int32) (c_now : Int64) (c_emits c_kept c_ignores : Int32) (c_values : Nat → Int32) (c_due : Nat → Int64) (c_outputs c_fired : Nat → Int32) (c_made c_classes c_size c_taken : Int32) (c_stateClass c_finerClass c_usedBits c_offsets c_owners : Nat → Int32) (l_out : Nat → Int64) (v1 : Int32) {o : Int32 × (Nat → Int64)} (hf : L_left c_now c_due l_out v1 = some o) : Li l yL_left wsL_left rmL_left D (CT ca ++ (OT oc)) (CW ad ca c_states c_transitions c_timerEvent c_from c_event c_next c_variable c_relation c_number c_actions c_kind c_a c_b c_present c_now c_emits c_kept c_ignores c_values c_due c_outputs c_fired c_made c_classes c_size c_taken c_stateClass c_finerClass c_usedBits c_offsets c_owners ++ (OW oq oc l_out)) [.ref (ad 0), .int v1, .ref oq] o.1 (CW ad ca c_states c_transitions c_timerEvent c_from c_event c_next c_variable c_relation c_number c_actions c_kind c_a c_b c_present c_now c_emits c_kept c_ignores c_values c_due c_outputs c_fired c_made c_classes c_size c_taken c_stateClass c_finerClass c_usedBits c_offsets c_owners ++ (OW oq oc o.2)) := by
  intro sz
  refine pl_entry (Qc := fun A => pw_Qi D (CT ca ++ (OT oc)) (CW ad ca c_states c_transitions c_timerEvent c_from c_event c_next c_variable c_relation c_number c_actions c_kind c_a c_b c_present c_now c_emits c_kept c_ignores c_values c_due c_outputs c_fired c_made c_classes c_size c_taken c_stateClass c_finerClass c_usedBits c_offsets c_owners ++ (OW oq oc o.2)) A o.1) (cc := cL_left) (maxL := 4) (ret := (some .int)) (hh := [(0, 9, 12, 19)]) (by decide) rfl (Nat.le_of_ble_eq_true rfl) ?_ sz
  intro p e s m args below meth c A ls Z H locs hx hb hr hlocks hts hown hml hK hP hD hS hA hl hT htab hZ
  have hown : s.vm.findClass RL = some m.cls := hown
  have kl19 := hts (.classLink RL 19 "java/lang/IndexOutOfBoundsException") (by decide +kernel)
  have hl : lv_has ls 4 [(0, .ref (ad 0)), (1, .int v1), (2, .ref oq)] := hl
  unfold L_left at hf
  refine lv_aload_n hx hb dL_left_0 rfl (lv_at hl 2 rfl) ?_
  refine lv_iconst (v := (0 : Int32)) hx hb dL_left_1 (by decide) ?_
  refine lv_aload_n hx hb dL_left_2 rfl (lv_at hl 0 rfl) ?_
  refine lv_iload_n hx hb dL_left_3 rfl (lv_at hl 1 rfl) ?_
  obtain ⟨x4, hg4, hfx, hfr⟩ := pr_x hf
  have hKc := hK.sub (tys' := (CT ca)) [0, 1, 2, 3, 4, 5, 6, 7, 8, 9, 10, 11, 12, 13, 14, 15, 16, 17, 18, 19] rfl
  refine px_cViP (b := ad 0) (As := [.int v1]) (rest := [.int (0 : Int32), .ref oq]) ⟨hx, hb, hml, hown, hts⟩ (c_X3_left hst (D := D) c_states c_transitions c_timerEvent c_from c_event c_next c_variable c_relation c_number c_actions c_kind c_a c_b c_present c_now c_emits c_kept c_ignores c_values c_due c_outputs c_fired c_made c_classes c_size c_taken c_stateClass c_finerClass c_usedBits c_offsets c_owners v1 hg4) (cwV 1 hts gL_left_X3_left rfl rfl rfl (by decide +kernel) ⟨Nat.le_of_ble_eq_true rfl, Nat.le_of_ble_eq_true rfl⟩) 0 3 rfl rfl hKc hP hD hS hA [0, 1, 2, 3, 4, 5, 6, 7, 8, 9, 10, 11, 12, 13, 14, 15, 16, 17, 18, 19, 20, 21, 22, 23] [24] rfl rfl (by decide) (by decide) (by decide) hT rfl hl.1 rfl (Nat.le_of_ble_eq_true rfl) dL_left_4 ⟨Nat.le_of_ble_eq_true rfl, Nat.le_of_ble_eq_true rfl⟩ (fun E ce q9 H locs ho hP hD hS hq1 hq2 hq3 => ?_) (fun u H locs ho hP hD hS => ?_)
  · have hf := hfx E ho
    have hP := hP.sub (ws' := (CW ad ca c_states c_transitions c_timerEvent c_from c_event c_next c_variable c_relation c_number c_actions c_kind c_a c_b c_present c_now c_emits c_kept c_ignores c_values c_due c_outputs c_fired c_made c_classes c_size c_taken c_stateClass c_finerClass c_usedBits c_offsets c_owners ++ (OW oq oc l_out))) [1, 2, 3, 4, 5, 6, 7, 8, 9, 10, 11, 12, 13, 14, 15, 16, 17, 18, 19, 20, 21, 22, 23, 24, 0] rfl
    have hD := hD.sub (ws' := (CW ad ca c_states c_transitions c_timerEvent c_from c_event c_next c_variable c_relation c_number c_actions c_kind c_a c_b c_present c_now c_emits c_kept c_ignores c_values c_due c_outputs c_fired c_made c_classes c_size c_taken c_stateClass c_finerClass c_usedBits c_offsets c_owners ++ (OW oq oc l_out))) [1, 2, 3, 4, 5, 6, 7, 8, 9, 10, 11, 12, 13, 14, 15, 16, 17, 18, 19, 20, 21, 22, 23, 24, 0] (by decide) rfl
    by_cases hE0 : E = "java/lang/IndexOutOfBoundsException"
    · subst hE0
      have hf := pr_t hf rfl
      refine vx_catch (name := "java/lang/IndexOutOfBoundsException") hown [] ⟨0, 9, 12, 19⟩ [] (by rw [htab]; rfl) (fun z => (fun hz => by cases hz)) (by decide) (by decide) kl19 (va_Nw.use rfl (hT.2.2.2.1 _ (by decide +kernel))) hq1 hq2 hq3 ?_
      refine W.eq (g2 := F0 m 12 ls [.ref q9]) rfl ?_
      refine lv_astore_n (lv' := [(3, .ref q9), (0, .ref (ad 0)), (1, .int v1), (2, .ref oq)]) hx hb dL_left_12 rfl hl (by decide) rfl (fun ls hl => ?_)
      refine lv_iconst (v := (1 : Int32)) hx hb dL_left_13 (by decide) ?_
      obtain rfl := Option.some.inj hf
      subst hZ
      exact pw_ri hx hb hr hlocks hK hP hD hS (Nat.le_of_ble_eq_true rfl) (Nat.le_of_ble_eq_true rfl) dL_left_14
    have hf := pr_f hf hE0
    exact pr_n hf
  have hf := hfr u ho
  have hP := hP.sub (ws' := (CW ad ca c_states c_transitions c_timerEvent c_from c_event c_next c_variable c_relation c_number c_actions c_kind c_a c_b c_present c_now c_emits c_kept c_ignores c_values c_due c_outputs c_fired c_made c_classes c_size c_taken c_stateClass c_finerClass c_usedBits c_offsets c_owners ++ (OW oq oc l_out))) [1, 2, 3, 4, 5, 6, 7, 8, 9, 10, 11, 12, 13, 14, 15, 16, 17, 18, 19, 20, 21, 22, 23, 24, 0] rfl
  have hD := hD.sub (ws' := (CW ad ca c_states c_transitions c_timerEvent c_from c_event c_next c_variable c_relation c_number c_actions c_kind c_a c_b c_present c_now c_emits c_kept c_ignores c_values c_due c_outputs c_fired c_made c_classes c_size c_taken c_stateClass c_finerClass c_usedBits c_offsets c_owners ++ (OW oq oc l_out))) [1, 2, 3, 4, 5, 6, 7, 8, 9, 10, 11, 12, 13, 14, 15, 16, 17, 18, 19, 20, 21, 22, 23, 24, 0] (by decide) rfl
  refine lv_i2l (v := u.toInt64) hx hb dL_left_7 rfl ?_
  refine va_last hx hb hK hP hD hS 24 20 rfl rfl (by unfold vp_in; decide) dL_left_8 (fun H locs hP hD hS => ?_)
  have hP : va_P D vwCl (CW ad ca c_states c_transitions c_timerEvent c_from c_event c_next c_variable c_relation c_number c_actions c_kind c_a c_b c_present c_now c_emits c_kept c_ignores c_values c_due c_outputs c_fired c_made c_classes c_size c_taken c_stateClass c_finerClass c_usedBits c_offsets c_owners ++ (OW oq oc (vp_updL l_out (0 : Int32).toNatClampNeg u.toInt64))) H := hP
  have hD : va_D A (CW ad ca c_states c_transitions c_timerEvent c_from c_event c_next c_variable c_relation c_number c_actions c_kind c_a c_b c_present c_now c_emits c_kept c_ignores c_values c_due c_outputs c_fired c_made c_classes c_size c_taken c_stateClass c_finerClass c_usedBits c_offsets c_owners ++ (OW oq oc (vp_updL l_out (0 : Int32).toNatClampNeg u.toInt64))) := hD
  refine lv_goto (tgt := 15) hx hb dL_left_9 (by decide) ?_
  refine lv_iconst (v := (0 : Int32)) hx hb dL_left_15 (by decide) ?_
  obtain rfl := Option.some.inj hf
  subst hZ
  exact pw_ri hx hb hr hlocks hK hP hD hS (Nat.le_of_ble_eq_true rfl) (Nat.le_of_ble_eq_true rfl) dL_left_16
abbrev rmL_output : Room := { frames := 7, cells := 1, slots := 6, locals := 111 }
set_option maxHeartbeats 4000000 in
set_option maxRecDepth 100000 in
theorem c_L_output {l : Launch} {D : va_G} {ad : Nat → Nat} {ca : Nat → ClassId} {oq : Nat} {oc : ClassId} (hst : l.stackTraces = false) (c_states c_transitions : Int32) (c_timerEvent c_from c_event c_next c_variable c_relation c_number c_actions c_kind c_a c_b : Nat → Int32) (c_present : Int32) (c_now : Int64) (c_emits c_kept c_ignores : Int32) (c_values : Nat → Int32) (c_due : Nat → Int64) (c_outputs c_fired : Nat → Int32) (c_made c_classes c_size c_taken : Int32) (c_stateClass c_finerClass c_usedBits c_offsets c_owners : Nat → Int32) (l_out : Nat → Int64) (v1 : Int32) {o : Int32 × (Nat → Int64)} (hf : L_output c_kept c_outputs l_out v1 = some o) : Li l yL_output wsL_output rmL_output D (CT ca ++ (OT oc)) (CW ad ca c_states c_transitions c_timerEvent c_from c_event c_next c_variable c_relation c_number c_actions c_kind c_a c_b c_present c_now c_emits c_kept c_ignores c_values c_due c_outputs c_fired c_made c_classes c_size c_taken c_stateClass c_finerClass c_usedBits c_offsets c_owners ++ (OW oq oc l_out)) [.ref (ad 0), .int v1, .ref oq] o.1 (CW ad ca c_states c_transitions c_timerEvent c_from c_event c_next c_variable c_relation c_number c_actions c_kind c_a c_b c_present c_now c_emits c_kept c_ignores c_values c_due c_outputs c_fired c_made c_classes c_size c_taken c_stateClass c_finerClass c_usedBits c_offsets c_owners ++ (OW oq oc o.2)) := by
  intro sz
  refine pl_entry (Qc := fun A => pw_Qi D (CT ca ++ (OT oc)) (CW ad ca c_states c_transitions c_timerEvent c_from c_event c_next c_variable c_relation c_number c_actions c_kind c_a c_b c_present c_now c_emits c_kept c_ignores c_values c_due c_outputs c_fired c_made c_classes c_size c_taken c_stateClass c_finerClass c_usedBits c_offsets c_owners ++ (OW oq oc o.2)) A o.1) (cc := cL_output) (maxL := 4) (ret := (some .int)) (hh := [(0, 9, 12, 19)]) (by decide) rfl (Nat.le_of_ble_eq_true rfl) ?_ sz
  intro p e s m args below meth c A ls Z H locs hx hb hr hlocks hts hown hml hK hP hD hS hA hl hT htab hZ
  have hown : s.vm.findClass RL = some m.cls := hown
  have kl19 := hts (.classLink RL 19 "java/lang/IndexOutOfBoundsException") (by decide +kernel)
  have hl : lv_has ls 4 [(0, .ref (ad 0)), (1, .int v1), (2, .ref oq)] := hl
  unfold L_output at hf
  refine lv_aload_n hx hb dL_output_0 rfl (lv_at hl 2 rfl) ?_
  refine lv_iconst (v := (0 : Int32)) hx hb dL_output_1 (by decide) ?_
  refine lv_aload_n hx hb dL_output_2 rfl (lv_at hl 0 rfl) ?_
  refine lv_iload_n hx hb dL_output_3 rfl (lv_at hl 1 rfl) ?_
  obtain ⟨x4, hg4, hfx, hfr⟩ := pr_x hf
  have hKc := hK.sub (tys' := (CT ca)) [0, 1, 2, 3, 4, 5, 6, 7, 8, 9, 10, 11, 12, 13, 14, 15, 16, 17, 18, 19] rfl
  refine px_cViP (b := ad 0) (As := [.int v1]) (rest := [.int (0 : Int32), .ref oq]) ⟨hx, hb, hml, hown, hts⟩ (c_X3_output hst (D := D) c_states c_transitions c_timerEvent c_from c_event c_next c_variable c_relation c_number c_actions c_kind c_a c_b c_present c_now c_emits c_kept c_ignores c_values c_due c_outputs c_fired c_made c_classes c_size c_taken c_stateClass c_finerClass c_usedBits c_offsets c_owners v1 hg4) (cwV 1 hts gL_output_X3_output rfl rfl rfl (by decide +kernel) ⟨Nat.le_of_ble_eq_true rfl, Nat.le_of_ble_eq_true rfl⟩) 0 3 rfl rfl hKc hP hD hS hA [0, 1, 2, 3, 4, 5, 6, 7, 8, 9, 10, 11, 12, 13, 14, 15, 16, 17, 18, 19, 20, 21, 22, 23] [24] rfl rfl (by decide) (by decide) (by decide) hT rfl hl.1 rfl (Nat.le_of_ble_eq_true rfl) dL_output_4 ⟨Nat.le_of_ble_eq_true rfl, Nat.le_of_ble_eq_true rfl⟩ (fun E ce q9 H locs ho hP hD hS hq1 hq2 hq3 => ?_) (fun u H locs ho hP hD hS => ?_)
  · have hf := hfx E ho
    have hP := hP.sub (ws' := (CW ad ca c_states c_transitions c_timerEvent c_from c_event c_next c_variable c_relation c_number c_actions c_kind c_a c_b c_present c_now c_emits c_kept c_ignores c_values c_due c_outputs c_fired c_made c_classes c_size c_taken c_stateClass c_finerClass c_usedBits c_offsets c_owners ++ (OW oq oc l_out))) [1, 2, 3, 4, 5, 6, 7, 8, 9, 10, 11, 12, 13, 14, 15, 16, 17, 18, 19, 20, 21, 22, 23, 24, 0] rfl
    have hD := hD.sub (ws' := (CW ad ca c_states c_transitions c_timerEvent c_from c_event c_next c_variable c_relation c_number c_actions c_kind c_a c_b c_present c_now c_emits c_kept c_ignores c_values c_due c_outputs c_fired c_made c_classes c_size c_taken c_stateClass c_finerClass c_usedBits c_offsets c_owners ++ (OW oq oc l_out))) [1, 2, 3, 4, 5, 6, 7, 8, 9, 10, 11, 12, 13, 14, 15, 16, 17, 18, 19, 20, 21, 22, 23, 24, 0] (by decide) rfl
    by_cases hE0 : E = "java/lang/IndexOutOfBoundsException"
    · subst hE0
      have hf := pr_t hf rfl
      refine vx_catch (name := "java/lang/IndexOutOfBoundsException") hown [] ⟨0, 9, 12, 19⟩ [] (by rw [htab]; rfl) (fun z => (fun hz => by cases hz)) (by decide) (by decide) kl19 (va_Nw.use rfl (hT.2.2.2.1 _ (by decide +kernel))) hq1 hq2 hq3 ?_
      refine W.eq (g2 := F0 m 12 ls [.ref q9]) rfl ?_
      refine lv_astore_n (lv' := [(3, .ref q9), (0, .ref (ad 0)), (1, .int v1), (2, .ref oq)]) hx hb dL_output_12 rfl hl (by decide) rfl (fun ls hl => ?_)
      refine lv_iconst (v := (1 : Int32)) hx hb dL_output_13 (by decide) ?_
      obtain rfl := Option.some.inj hf
      subst hZ
      exact pw_ri hx hb hr hlocks hK hP hD hS (Nat.le_of_ble_eq_true rfl) (Nat.le_of_ble_eq_true rfl) dL_output_14
    have hf := pr_f hf hE0
    exact pr_n hf
  have hf := hfr u ho
  have hP := hP.sub (ws' := (CW ad ca c_states c_transitions c_timerEvent c_from c_event c_next c_variable c_relation c_number c_actions c_kind c_a c_b c_present c_now c_emits c_kept c_ignores c_values c_due c_outputs c_fired c_made c_classes c_size c_taken c_stateClass c_finerClass c_usedBits c_offsets c_owners ++ (OW oq oc l_out))) [1, 2, 3, 4, 5, 6, 7, 8, 9, 10, 11, 12, 13, 14, 15, 16, 17, 18, 19, 20, 21, 22, 23, 24, 0] rfl
  have hD := hD.sub (ws' := (CW ad ca c_states c_transitions c_timerEvent c_from c_event c_next c_variable c_relation c_number c_actions c_kind c_a c_b c_present c_now c_emits c_kept c_ignores c_values c_due c_outputs c_fired c_made c_classes c_size c_taken c_stateClass c_finerClass c_usedBits c_offsets c_owners ++ (OW oq oc l_out))) [1, 2, 3, 4, 5, 6, 7, 8, 9, 10, 11, 12, 13, 14, 15, 16, 17, 18, 19, 20, 21, 22, 23, 24, 0] (by decide) rfl
  refine lv_i2l (v := u.toInt64) hx hb dL_output_7 rfl ?_
  refine va_last hx hb hK hP hD hS 24 20 rfl rfl (by unfold vp_in; decide) dL_output_8 (fun H locs hP hD hS => ?_)
  have hP : va_P D vwCl (CW ad ca c_states c_transitions c_timerEvent c_from c_event c_next c_variable c_relation c_number c_actions c_kind c_a c_b c_present c_now c_emits c_kept c_ignores c_values c_due c_outputs c_fired c_made c_classes c_size c_taken c_stateClass c_finerClass c_usedBits c_offsets c_owners ++ (OW oq oc (vp_updL l_out (0 : Int32).toNatClampNeg u.toInt64))) H := hP
  have hD : va_D A (CW ad ca c_states c_transitions c_timerEvent c_from c_event c_next c_variable c_relation c_number c_actions c_kind c_a c_b c_present c_now c_emits c_kept c_ignores c_values c_due c_outputs c_fired c_made c_classes c_size c_taken c_stateClass c_finerClass c_usedBits c_offsets c_owners ++ (OW oq oc (vp_updL l_out (0 : Int32).toNatClampNeg u.toInt64))) := hD
  refine lv_goto (tgt := 15) hx hb dL_output_9 (by decide) ?_
  refine lv_iconst (v := (0 : Int32)) hx hb dL_output_15 (by decide) ?_
  obtain rfl := Option.some.inj hf
  subst hZ
  exact pw_ri hx hb hr hlocks hK hP hD hS (Nat.le_of_ble_eq_true rfl) (Nat.le_of_ble_eq_true rfl) dL_output_16
abbrev rmL_fired : Room := { frames := 7, cells := 1, slots := 6, locals := 111 }
set_option maxHeartbeats 4000000 in
set_option maxRecDepth 100000 in
theorem c_L_fired {l : Launch} {D : va_G} {ad : Nat → Nat} {ca : Nat → ClassId} {oq : Nat} {oc : ClassId} (hst : l.stackTraces = false) (c_states c_transitions : Int32) (c_timerEvent c_from c_event c_next c_variable c_relation c_number c_actions c_kind c_a c_b : Nat → Int32) (c_present : Int32) (c_now : Int64) (c_emits c_kept c_ignores : Int32) (c_values : Nat → Int32) (c_due : Nat → Int64) (c_outputs c_fired : Nat → Int32) (c_made c_classes c_size c_taken : Int32) (c_stateClass c_finerClass c_usedBits c_offsets c_owners : Nat → Int32) (l_out : Nat → Int64) (v1 : Int32) {o : Int32 × (Nat → Int64)} (hf : L_fired c_transitions c_fired l_out v1 = some o) : Li l yL_fired wsL_fired rmL_fired D (CT ca ++ (OT oc)) (CW ad ca c_states c_transitions c_timerEvent c_from c_event c_next c_variable c_relation c_number c_actions c_kind c_a c_b c_present c_now c_emits c_kept c_ignores c_values c_due c_outputs c_fired c_made c_classes c_size c_taken c_stateClass c_finerClass c_usedBits c_offsets c_owners ++ (OW oq oc l_out)) [.ref (ad 0), .int v1, .ref oq] o.1 (CW ad ca c_states c_transitions c_timerEvent c_from c_event c_next c_variable c_relation c_number c_actions c_kind c_a c_b c_present c_now c_emits c_kept c_ignores c_values c_due c_outputs c_fired c_made c_classes c_size c_taken c_stateClass c_finerClass c_usedBits c_offsets c_owners ++ (OW oq oc o.2)) := by
  intro sz
  refine pl_entry (Qc := fun A => pw_Qi D (CT ca ++ (OT oc)) (CW ad ca c_states c_transitions c_timerEvent c_from c_event c_next c_variable c_relation c_number c_actions c_kind c_a c_b c_present c_now c_emits c_kept c_ignores c_values c_due c_outputs c_fired c_made c_classes c_size c_taken c_stateClass c_finerClass c_usedBits c_offsets c_owners ++ (OW oq oc o.2)) A o.1) (cc := cL_fired) (maxL := 4) (ret := (some .int)) (hh := [(0, 9, 12, 19)]) (by decide) rfl (Nat.le_of_ble_eq_true rfl) ?_ sz
  intro p e s m args below meth c A ls Z H locs hx hb hr hlocks hts hown hml hK hP hD hS hA hl hT htab hZ
  have hown : s.vm.findClass RL = some m.cls := hown
  have kl19 := hts (.classLink RL 19 "java/lang/IndexOutOfBoundsException") (by decide +kernel)
  have hl : lv_has ls 4 [(0, .ref (ad 0)), (1, .int v1), (2, .ref oq)] := hl
  unfold L_fired at hf
  refine lv_aload_n hx hb dL_fired_0 rfl (lv_at hl 2 rfl) ?_
  refine lv_iconst (v := (0 : Int32)) hx hb dL_fired_1 (by decide) ?_
  refine lv_aload_n hx hb dL_fired_2 rfl (lv_at hl 0 rfl) ?_
  refine lv_iload_n hx hb dL_fired_3 rfl (lv_at hl 1 rfl) ?_
  obtain ⟨x4, hg4, hfx, hfr⟩ := pr_x hf
  have hKc := hK.sub (tys' := (CT ca)) [0, 1, 2, 3, 4, 5, 6, 7, 8, 9, 10, 11, 12, 13, 14, 15, 16, 17, 18, 19] rfl
  refine px_cViP (b := ad 0) (As := [.int v1]) (rest := [.int (0 : Int32), .ref oq]) ⟨hx, hb, hml, hown, hts⟩ (c_X3_fired hst (D := D) c_states c_transitions c_timerEvent c_from c_event c_next c_variable c_relation c_number c_actions c_kind c_a c_b c_present c_now c_emits c_kept c_ignores c_values c_due c_outputs c_fired c_made c_classes c_size c_taken c_stateClass c_finerClass c_usedBits c_offsets c_owners v1 hg4) (cwV 1 hts gL_fired_X3_fired rfl rfl rfl (by decide +kernel) ⟨Nat.le_of_ble_eq_true rfl, Nat.le_of_ble_eq_true rfl⟩) 0 3 rfl rfl hKc hP hD hS hA [0, 1, 2, 3, 4, 5, 6, 7, 8, 9, 10, 11, 12, 13, 14, 15, 16, 17, 18, 19, 20, 21, 22, 23] [24] rfl rfl (by decide) (by decide) (by decide) hT rfl hl.1 rfl (Nat.le_of_ble_eq_true rfl) dL_fired_4 ⟨Nat.le_of_ble_eq_true rfl, Nat.le_of_ble_eq_true rfl⟩ (fun E ce q9 H locs ho hP hD hS hq1 hq2 hq3 => ?_) (fun u H locs ho hP hD hS => ?_)
  · have hf := hfx E ho
    have hP := hP.sub (ws' := (CW ad ca c_states c_transitions c_timerEvent c_from c_event c_next c_variable c_relation c_number c_actions c_kind c_a c_b c_present c_now c_emits c_kept c_ignores c_values c_due c_outputs c_fired c_made c_classes c_size c_taken c_stateClass c_finerClass c_usedBits c_offsets c_owners ++ (OW oq oc l_out))) [1, 2, 3, 4, 5, 6, 7, 8, 9, 10, 11, 12, 13, 14, 15, 16, 17, 18, 19, 20, 21, 22, 23, 24, 0] rfl
    have hD := hD.sub (ws' := (CW ad ca c_states c_transitions c_timerEvent c_from c_event c_next c_variable c_relation c_number c_actions c_kind c_a c_b c_present c_now c_emits c_kept c_ignores c_values c_due c_outputs c_fired c_made c_classes c_size c_taken c_stateClass c_finerClass c_usedBits c_offsets c_owners ++ (OW oq oc l_out))) [1, 2, 3, 4, 5, 6, 7, 8, 9, 10, 11, 12, 13, 14, 15, 16, 17, 18, 19, 20, 21, 22, 23, 24, 0] (by decide) rfl
    by_cases hE0 : E = "java/lang/IndexOutOfBoundsException"
    · subst hE0
      have hf := pr_t hf rfl
      refine vx_catch (name := "java/lang/IndexOutOfBoundsException") hown [] ⟨0, 9, 12, 19⟩ [] (by rw [htab]; rfl) (fun z => (fun hz => by cases hz)) (by decide) (by decide) kl19 (va_Nw.use rfl (hT.2.2.2.1 _ (by decide +kernel))) hq1 hq2 hq3 ?_
      refine W.eq (g2 := F0 m 12 ls [.ref q9]) rfl ?_
      refine lv_astore_n (lv' := [(3, .ref q9), (0, .ref (ad 0)), (1, .int v1), (2, .ref oq)]) hx hb dL_fired_12 rfl hl (by decide) rfl (fun ls hl => ?_)
      refine lv_iconst (v := (1 : Int32)) hx hb dL_fired_13 (by decide) ?_
      obtain rfl := Option.some.inj hf
      subst hZ
      exact pw_ri hx hb hr hlocks hK hP hD hS (Nat.le_of_ble_eq_true rfl) (Nat.le_of_ble_eq_true rfl) dL_fired_14
    have hf := pr_f hf hE0
    exact pr_n hf
  have hf := hfr u ho
  have hP := hP.sub (ws' := (CW ad ca c_states c_transitions c_timerEvent c_from c_event c_next c_variable c_relation c_number c_actions c_kind c_a c_b c_present c_now c_emits c_kept c_ignores c_values c_due c_outputs c_fired c_made c_classes c_size c_taken c_stateClass c_finerClass c_usedBits c_offsets c_owners ++ (OW oq oc l_out))) [1, 2, 3, 4, 5, 6, 7, 8, 9, 10, 11, 12, 13, 14, 15, 16, 17, 18, 19, 20, 21, 22, 23, 24, 0] rfl
  have hD := hD.sub (ws' := (CW ad ca c_states c_transitions c_timerEvent c_from c_event c_next c_variable c_relation c_number c_actions c_kind c_a c_b c_present c_now c_emits c_kept c_ignores c_values c_due c_outputs c_fired c_made c_classes c_size c_taken c_stateClass c_finerClass c_usedBits c_offsets c_owners ++ (OW oq oc l_out))) [1, 2, 3, 4, 5, 6, 7, 8, 9, 10, 11, 12, 13, 14, 15, 16, 17, 18, 19, 20, 21, 22, 23, 24, 0] (by decide) rfl
  refine lv_i2l (v := u.toInt64) hx hb dL_fired_7 rfl ?_
  refine va_last hx hb hK hP hD hS 24 20 rfl rfl (by unfold vp_in; decide) dL_fired_8 (fun H locs hP hD hS => ?_)
  have hP : va_P D vwCl (CW ad ca c_states c_transitions c_timerEvent c_from c_event c_next c_variable c_relation c_number c_actions c_kind c_a c_b c_present c_now c_emits c_kept c_ignores c_values c_due c_outputs c_fired c_made c_classes c_size c_taken c_stateClass c_finerClass c_usedBits c_offsets c_owners ++ (OW oq oc (vp_updL l_out (0 : Int32).toNatClampNeg u.toInt64))) H := hP
  have hD : va_D A (CW ad ca c_states c_transitions c_timerEvent c_from c_event c_next c_variable c_relation c_number c_actions c_kind c_a c_b c_present c_now c_emits c_kept c_ignores c_values c_due c_outputs c_fired c_made c_classes c_size c_taken c_stateClass c_finerClass c_usedBits c_offsets c_owners ++ (OW oq oc (vp_updL l_out (0 : Int32).toNatClampNeg u.toInt64))) := hD
  refine lv_goto (tgt := 15) hx hb dL_fired_9 (by decide) ?_
  refine lv_iconst (v := (0 : Int32)) hx hb dL_fired_15 (by decide) ?_
  obtain rfl := Option.some.inj hf
  subst hZ
  exact pw_ri hx hb hr hlocks hK hP hD hS (Nat.le_of_ble_eq_true rfl) (Nat.le_of_ble_eq_true rfl) dL_fired_16
abbrev rmL_classOf : Room := { frames := 8, cells := 2, slots := 12, locals := 131 }
set_option maxHeartbeats 4000000 in
set_option maxRecDepth 100000 in
theorem c_L_classOf {l : Launch} {D : va_G} {ad : Nat → Nat} {ca : Nat → ClassId} {oq : Nat} {oc : ClassId} (hst : l.stackTraces = false) (c_states c_transitions : Int32) (c_timerEvent c_from c_event c_next c_variable c_relation c_number c_actions c_kind c_a c_b : Nat → Int32) (c_present : Int32) (c_now : Int64) (c_emits c_kept c_ignores : Int32) (c_values : Nat → Int32) (c_due : Nat → Int64) (c_outputs c_fired : Nat → Int32) (c_made c_classes c_size c_taken : Int32) (c_stateClass c_finerClass c_usedBits c_offsets c_owners : Nat → Int32) (l_out : Nat → Int64) (v1 : Int32) {o : Int32 × (Nat → Int64)} (hf : L_classOf c_states c_made c_stateClass l_out v1 = some o) : Li l yL_classOf wsL_classOf rmL_classOf D (CT ca ++ (OT oc)) (CW ad ca c_states c_transitions c_timerEvent c_from c_event c_next c_variable c_relation c_number c_actions c_kind c_a c_b c_present c_now c_emits c_kept c_ignores c_values c_due c_outputs c_fired c_made c_classes c_size c_taken c_stateClass c_finerClass c_usedBits c_offsets c_owners ++ (OW oq oc l_out)) [.ref (ad 0), .int v1, .ref oq] o.1 (CW ad ca c_states c_transitions c_timerEvent c_from c_event c_next c_variable c_relation c_number c_actions c_kind c_a c_b c_present c_now c_emits c_kept c_ignores c_values c_due c_outputs c_fired c_made c_classes c_size c_taken c_stateClass c_finerClass c_usedBits c_offsets c_owners ++ (OW oq oc o.2)) := by
  intro sz
  refine pl_entry (Qc := fun A => pw_Qi D (CT ca ++ (OT oc)) (CW ad ca c_states c_transitions c_timerEvent c_from c_event c_next c_variable c_relation c_number c_actions c_kind c_a c_b c_present c_now c_emits c_kept c_ignores c_values c_due c_outputs c_fired c_made c_classes c_size c_taken c_stateClass c_finerClass c_usedBits c_offsets c_owners ++ (OW oq oc o.2)) A o.1) (cc := cL_classOf) (maxL := 4) (ret := (some .int)) (hh := [(0, 9, 12, 13), (0, 9, 15, 19)]) (by decide) rfl (Nat.le_of_ble_eq_true rfl) ?_ sz
  intro p e s m args below meth c A ls Z H locs hx hb hr hlocks hts hown hml hK hP hD hS hA hl hT htab hZ
  have hown : s.vm.findClass RL = some m.cls := hown
  have kl13 := hts (.classLink RL 13 "java/lang/IllegalStateException") (by decide +kernel)
  have kl19 := hts (.classLink RL 19 "java/lang/IndexOutOfBoundsException") (by decide +kernel)
  have hl : lv_has ls 4 [(0, .ref (ad 0)), (1, .int v1), (2, .ref oq)] := hl
  unfold L_classOf at hf
  refine lv_aload_n hx hb dL_classOf_0 rfl (lv_at hl 2 rfl) ?_
  refine lv_iconst (v := (0 : Int32)) hx hb dL_classOf_1 (by decide) ?_
  refine lv_aload_n hx hb dL_classOf_2 rfl (lv_at hl 0 rfl) ?_
  refine lv_iload_n hx hb dL_classOf_3 rfl (lv_at hl 1 rfl) ?_
  obtain ⟨x4, hg4, hfx, hfr⟩ := pr_x hf
  have hKc := hK.sub (tys' := (CT ca)) [0, 1, 2, 3, 4, 5, 6, 7, 8, 9, 10, 11, 12, 13, 14, 15, 16, 17, 18, 19] rfl
  refine px_cViP (b := ad 0) (As := [.int v1]) (rest := [.int (0 : Int32), .ref oq]) ⟨hx, hb, hml, hown, hts⟩ (c_X3_classOf hst (D := D) c_states c_transitions c_timerEvent c_from c_event c_next c_variable c_relation c_number c_actions c_kind c_a c_b c_present c_now c_emits c_kept c_ignores c_values c_due c_outputs c_fired c_made c_classes c_size c_taken c_stateClass c_finerClass c_usedBits c_offsets c_owners v1 hg4) (cwV 1 hts gL_classOf_X3_classOf rfl rfl rfl (by decide +kernel) ⟨Nat.le_of_ble_eq_true rfl, Nat.le_of_ble_eq_true rfl⟩) 0 3 rfl rfl hKc hP hD hS hA [0, 1, 2, 3, 4, 5, 6, 7, 8, 9, 10, 11, 12, 13, 14, 15, 16, 17, 18, 19, 20, 21, 22, 23] [24] rfl rfl (by decide) (by decide) (by decide) hT rfl hl.1 rfl (Nat.le_of_ble_eq_true rfl) dL_classOf_4 ⟨Nat.le_of_ble_eq_true rfl, Nat.le_of_ble_eq_true rfl⟩ (fun E ce q9 H locs ho hP hD hS hq1 hq2 hq3 => ?_) (fun u H locs ho hP hD hS => ?_)
  · have hf := hfx E ho
    have hP := hP.sub (ws' := (CW ad ca c_states c_transitions c_timerEvent c_from c_event c_next c_variable c_relation c_number c_actions c_kind c_a c_b c_present c_now c_emits c_kept c_ignores c_values c_due c_outputs c_fired c_made c_classes c_size c_taken c_stateClass c_finerClass c_usedBits c_offsets c_owners ++ (OW oq oc l_out))) [1, 2, 3, 4, 5, 6, 7, 8, 9, 10, 11, 12, 13, 14, 15, 16, 17, 18, 19, 20, 21, 22, 23, 24, 0] rfl
    have hD := hD.sub (ws' := (CW ad ca c_states c_transitions c_timerEvent c_from c_event c_next c_variable c_relation c_number c_actions c_kind c_a c_b c_present c_now c_emits c_kept c_ignores c_values c_due c_outputs c_fired c_made c_classes c_size c_taken c_stateClass c_finerClass c_usedBits c_offsets c_owners ++ (OW oq oc l_out))) [1, 2, 3, 4, 5, 6, 7, 8, 9, 10, 11, 12, 13, 14, 15, 16, 17, 18, 19, 20, 21, 22, 23, 24, 0] (by decide) rfl
    by_cases hE0 : E = "java/lang/IllegalStateException"
    · subst hE0
      have hf := pr_t hf rfl
      refine vx_catch (name := "java/lang/IllegalStateException") hown [] ⟨0, 9, 12, 13⟩ [⟨0, 9, 15, 19⟩] (by rw [htab]; rfl) (fun z => (fun hz => by cases hz)) (by decide) (by decide) kl13 (va_Nw.use rfl (hT.2.2.2.1 _ (by decide +kernel))) hq1 hq2 hq3 ?_
      refine W.eq (g2 := F0 m 12 ls [.ref q9]) rfl ?_
      refine lv_astore_n (lv' := [(3, .ref q9), (0, .ref (ad 0)), (1, .int v1), (2, .ref oq)]) hx hb dL_classOf_12 rfl hl (by decide) rfl (fun ls hl => ?_)
      refine lv_iconst (v := (1 : Int32)) hx hb dL_classOf_13 (by decide) ?_
      obtain rfl := Option.some.inj hf
      subst hZ
      exact pw_ri hx hb hr hlocks hK hP hD hS (Nat.le_of_ble_eq_true rfl) (Nat.le_of_ble_eq_true rfl) dL_classOf_14
    have hf := pr_f hf hE0
    by_cases hE1 : E = "java/lang/IndexOutOfBoundsException"
    · subst hE1
      have hf := pr_t hf rfl
      refine vx_catch (name := "java/lang/IndexOutOfBoundsException") hown [⟨0, 9, 12, 13⟩] ⟨0, 9, 15, 19⟩ [] (by rw [htab]; rfl) (fun z => (fun hz => (List.mem_cons.mp hz).elim (fun h9 => by rw [h9]; exact Or.inr ⟨by decide, _, kl13, hT.2.2.2.2.1 _ (by decide +kernel) _ (by decide +kernel) (by decide +kernel)⟩) (fun hz => by cases hz))) (by decide) (by decide) kl19 (va_Nw.use rfl (hT.2.2.2.1 _ (by decide +kernel))) hq1 hq2 hq3 ?_
      refine W.eq (g2 := F0 m 15 ls [.ref q9]) rfl ?_
      refine lv_astore_n (lv' := [(3, .ref q9), (0, .ref (ad 0)), (1, .int v1), (2, .ref oq)]) hx hb dL_classOf_15 rfl hl (by decide) rfl (fun ls hl => ?_)
      refine lv_iconst (v := (2 : Int32)) hx hb dL_classOf_16 (by decide) ?_
      obtain rfl := Option.some.inj hf
      subst hZ
      exact pw_ri hx hb hr hlocks hK hP hD hS (Nat.le_of_ble_eq_true rfl) (Nat.le_of_ble_eq_true rfl) dL_classOf_17
    have hf := pr_f hf hE1
    exact pr_n hf
  have hf := hfr u ho
  have hP := hP.sub (ws' := (CW ad ca c_states c_transitions c_timerEvent c_from c_event c_next c_variable c_relation c_number c_actions c_kind c_a c_b c_present c_now c_emits c_kept c_ignores c_values c_due c_outputs c_fired c_made c_classes c_size c_taken c_stateClass c_finerClass c_usedBits c_offsets c_owners ++ (OW oq oc l_out))) [1, 2, 3, 4, 5, 6, 7, 8, 9, 10, 11, 12, 13, 14, 15, 16, 17, 18, 19, 20, 21, 22, 23, 24, 0] rfl
  have hD := hD.sub (ws' := (CW ad ca c_states c_transitions c_timerEvent c_from c_event c_next c_variable c_relation c_number c_actions c_kind c_a c_b c_present c_now c_emits c_kept c_ignores c_values c_due c_outputs c_fired c_made c_classes c_size c_taken c_stateClass c_finerClass c_usedBits c_offsets c_owners ++ (OW oq oc l_out))) [1, 2, 3, 4, 5, 6, 7, 8, 9, 10, 11, 12, 13, 14, 15, 16, 17, 18, 19, 20, 21, 22, 23, 24, 0] (by decide) rfl
  refine lv_i2l (v := u.toInt64) hx hb dL_classOf_7 rfl ?_
  refine va_last hx hb hK hP hD hS 24 20 rfl rfl (by unfold vp_in; decide) dL_classOf_8 (fun H locs hP hD hS => ?_)
  have hP : va_P D vwCl (CW ad ca c_states c_transitions c_timerEvent c_from c_event c_next c_variable c_relation c_number c_actions c_kind c_a c_b c_present c_now c_emits c_kept c_ignores c_values c_due c_outputs c_fired c_made c_classes c_size c_taken c_stateClass c_finerClass c_usedBits c_offsets c_owners ++ (OW oq oc (vp_updL l_out (0 : Int32).toNatClampNeg u.toInt64))) H := hP
  have hD : va_D A (CW ad ca c_states c_transitions c_timerEvent c_from c_event c_next c_variable c_relation c_number c_actions c_kind c_a c_b c_present c_now c_emits c_kept c_ignores c_values c_due c_outputs c_fired c_made c_classes c_size c_taken c_stateClass c_finerClass c_usedBits c_offsets c_owners ++ (OW oq oc (vp_updL l_out (0 : Int32).toNatClampNeg u.toInt64))) := hD
  refine lv_goto (tgt := 18) hx hb dL_classOf_9 (by decide) ?_
  refine lv_iconst (v := (0 : Int32)) hx hb dL_classOf_18 (by decide) ?_
  obtain rfl := Option.some.inj hf
  subst hZ
  exact pw_ri hx hb hr hlocks hK hP hD hS (Nat.le_of_ble_eq_true rfl) (Nat.le_of_ble_eq_true rfl) dL_classOf_19
abbrev rmL_offset : Room := { frames := 9, cells := 2, slots := 12, locals := 152 }
set_option maxHeartbeats 4000000 in
set_option maxRecDepth 100000 in
theorem c_L_offset {l : Launch} {D : va_G} {ad : Nat → Nat} {ca : Nat → ClassId} {oq : Nat} {oc : ClassId} (hst : l.stackTraces = false) (c_states c_transitions : Int32) (c_timerEvent c_from c_event c_next c_variable c_relation c_number c_actions c_kind c_a c_b : Nat → Int32) (c_present : Int32) (c_now : Int64) (c_emits c_kept c_ignores : Int32) (c_values : Nat → Int32) (c_due : Nat → Int64) (c_outputs c_fired : Nat → Int32) (c_made c_classes c_size c_taken : Int32) (c_stateClass c_finerClass c_usedBits c_offsets c_owners : Nat → Int32) (l_out : Nat → Int64) (v1 : Int32) {o : Int32 × (Nat → Int64)} (hf : L_offset c_made c_classes c_offsets l_out v1 = some o) : Li l yL_offset wsL_offset rmL_offset D (CT ca ++ (OT oc)) (CW ad ca c_states c_transitions c_timerEvent c_from c_event c_next c_variable c_relation c_number c_actions c_kind c_a c_b c_present c_now c_emits c_kept c_ignores c_values c_due c_outputs c_fired c_made c_classes c_size c_taken c_stateClass c_finerClass c_usedBits c_offsets c_owners ++ (OW oq oc l_out)) [.ref (ad 0), .int v1, .ref oq] o.1 (CW ad ca c_states c_transitions c_timerEvent c_from c_event c_next c_variable c_relation c_number c_actions c_kind c_a c_b c_present c_now c_emits c_kept c_ignores c_values c_due c_outputs c_fired c_made c_classes c_size c_taken c_stateClass c_finerClass c_usedBits c_offsets c_owners ++ (OW oq oc o.2)) := by
  intro sz
  refine pl_entry (Qc := fun A => pw_Qi D (CT ca ++ (OT oc)) (CW ad ca c_states c_transitions c_timerEvent c_from c_event c_next c_variable c_relation c_number c_actions c_kind c_a c_b c_present c_now c_emits c_kept c_ignores c_values c_due c_outputs c_fired c_made c_classes c_size c_taken c_stateClass c_finerClass c_usedBits c_offsets c_owners ++ (OW oq oc o.2)) A o.1) (cc := cL_offset) (maxL := 4) (ret := (some .int)) (hh := [(0, 9, 12, 13), (0, 9, 15, 19)]) (by decide) rfl (Nat.le_of_ble_eq_true rfl) ?_ sz
  intro p e s m args below meth c A ls Z H locs hx hb hr hlocks hts hown hml hK hP hD hS hA hl hT htab hZ
  have hown : s.vm.findClass RL = some m.cls := hown
  have kl13 := hts (.classLink RL 13 "java/lang/IllegalStateException") (by decide +kernel)
  have kl19 := hts (.classLink RL 19 "java/lang/IndexOutOfBoundsException") (by decide +kernel)
  have hl : lv_has ls 4 [(0, .ref (ad 0)), (1, .int v1), (2, .ref oq)] := hl
  unfold L_offset at hf
  refine lv_aload_n hx hb dL_offset_0 rfl (lv_at hl 2 rfl) ?_
  refine lv_iconst (v := (0 : Int32)) hx hb dL_offset_1 (by decide) ?_
  refine lv_aload_n hx hb dL_offset_2 rfl (lv_at hl 0 rfl) ?_
  refine lv_iload_n hx hb dL_offset_3 rfl (lv_at hl 1 rfl) ?_
  obtain ⟨x4, hg4, hfx, hfr⟩ := pr_x hf
  have hKc := hK.sub (tys' := (CT ca)) [0, 1, 2, 3, 4, 5, 6, 7, 8, 9, 10, 11, 12, 13, 14, 15, 16, 17, 18, 19] rfl
  refine px_cViP (b := ad 0) (As := [.int v1]) (rest := [.int (0 : Int32), .ref oq]) ⟨hx, hb, hml, hown, hts⟩ (c_X3_offset hst (D := D) c_states c_transitions c_timerEvent c_from c_event c_next c_variable c_relation c_number c_actions c_kind c_a c_b c_present c_now c_emits c_kept c_ignores c_values c_due c_outputs c_fired c_made c_classes c_size c_taken c_stateClass c_finerClass c_usedBits c_offsets c_owners v1 hg4) (cwV 1 hts gL_offset_X3_offset rfl rfl rfl (by decide +kernel) ⟨Nat.le_of_ble_eq_true rfl, Nat.le_of_ble_eq_true rfl⟩) 0 3 rfl rfl hKc hP hD hS hA [0, 1, 2, 3, 4, 5, 6, 7, 8, 9, 10, 11, 12, 13, 14, 15, 16, 17, 18, 19, 20, 21, 22, 23] [24] rfl rfl (by decide) (by decide) (by decide) hT rfl hl.1 rfl (Nat.le_of_ble_eq_true rfl) dL_offset_4 ⟨Nat.le_of_ble_eq_true rfl, Nat.le_of_ble_eq_true rfl⟩ (fun E ce q9 H locs ho hP hD hS hq1 hq2 hq3 => ?_) (fun u H locs ho hP hD hS => ?_)
  · have hf := hfx E ho
    have hP := hP.sub (ws' := (CW ad ca c_states c_transitions c_timerEvent c_from c_event c_next c_variable c_relation c_number c_actions c_kind c_a c_b c_present c_now c_emits c_kept c_ignores c_values c_due c_outputs c_fired c_made c_classes c_size c_taken c_stateClass c_finerClass c_usedBits c_offsets c_owners ++ (OW oq oc l_out))) [1, 2, 3, 4, 5, 6, 7, 8, 9, 10, 11, 12, 13, 14, 15, 16, 17, 18, 19, 20, 21, 22, 23, 24, 0] rfl
    have hD := hD.sub (ws' := (CW ad ca c_states c_transitions c_timerEvent c_from c_event c_next c_variable c_relation c_number c_actions c_kind c_a c_b c_present c_now c_emits c_kept c_ignores c_values c_due c_outputs c_fired c_made c_classes c_size c_taken c_stateClass c_finerClass c_usedBits c_offsets c_owners ++ (OW oq oc l_out))) [1, 2, 3, 4, 5, 6, 7, 8, 9, 10, 11, 12, 13, 14, 15, 16, 17, 18, 19, 20, 21, 22, 23, 24, 0] (by decide) rfl
    by_cases hE0 : E = "java/lang/IllegalStateException"
    · subst hE0
      have hf := pr_t hf rfl
      refine vx_catch (name := "java/lang/IllegalStateException") hown [] ⟨0, 9, 12, 13⟩ [⟨0, 9, 15, 19⟩] (by rw [htab]; rfl) (fun z => (fun hz => by cases hz)) (by decide) (by decide) kl13 (va_Nw.use rfl (hT.2.2.2.1 _ (by decide +kernel))) hq1 hq2 hq3 ?_
      refine W.eq (g2 := F0 m 12 ls [.ref q9]) rfl ?_
      refine lv_astore_n (lv' := [(3, .ref q9), (0, .ref (ad 0)), (1, .int v1), (2, .ref oq)]) hx hb dL_offset_12 rfl hl (by decide) rfl (fun ls hl => ?_)
      refine lv_iconst (v := (1 : Int32)) hx hb dL_offset_13 (by decide) ?_
      obtain rfl := Option.some.inj hf
      subst hZ
      exact pw_ri hx hb hr hlocks hK hP hD hS (Nat.le_of_ble_eq_true rfl) (Nat.le_of_ble_eq_true rfl) dL_offset_14
    have hf := pr_f hf hE0
    by_cases hE1 : E = "java/lang/IndexOutOfBoundsException"
    · subst hE1
      have hf := pr_t hf rfl
      refine vx_catch (name := "java/lang/IndexOutOfBoundsException") hown [⟨0, 9, 12, 13⟩] ⟨0, 9, 15, 19⟩ [] (by rw [htab]; rfl) (fun z => (fun hz => (List.mem_cons.mp hz).elim (fun h9 => by rw [h9]; exact Or.inr ⟨by decide, _, kl13, hT.2.2.2.2.1 _ (by decide +kernel) _ (by decide +kernel) (by decide +kernel)⟩) (fun hz => by cases hz))) (by decide) (by decide) kl19 (va_Nw.use rfl (hT.2.2.2.1 _ (by decide +kernel))) hq1 hq2 hq3 ?_
      refine W.eq (g2 := F0 m 15 ls [.ref q9]) rfl ?_
      refine lv_astore_n (lv' := [(3, .ref q9), (0, .ref (ad 0)), (1, .int v1), (2, .ref oq)]) hx hb dL_offset_15 rfl hl (by decide) rfl (fun ls hl => ?_)
      refine lv_iconst (v := (2 : Int32)) hx hb dL_offset_16 (by decide) ?_
      obtain rfl := Option.some.inj hf
      subst hZ
      exact pw_ri hx hb hr hlocks hK hP hD hS (Nat.le_of_ble_eq_true rfl) (Nat.le_of_ble_eq_true rfl) dL_offset_17
    have hf := pr_f hf hE1
    exact pr_n hf
  have hf := hfr u ho
  have hP := hP.sub (ws' := (CW ad ca c_states c_transitions c_timerEvent c_from c_event c_next c_variable c_relation c_number c_actions c_kind c_a c_b c_present c_now c_emits c_kept c_ignores c_values c_due c_outputs c_fired c_made c_classes c_size c_taken c_stateClass c_finerClass c_usedBits c_offsets c_owners ++ (OW oq oc l_out))) [1, 2, 3, 4, 5, 6, 7, 8, 9, 10, 11, 12, 13, 14, 15, 16, 17, 18, 19, 20, 21, 22, 23, 24, 0] rfl
  have hD := hD.sub (ws' := (CW ad ca c_states c_transitions c_timerEvent c_from c_event c_next c_variable c_relation c_number c_actions c_kind c_a c_b c_present c_now c_emits c_kept c_ignores c_values c_due c_outputs c_fired c_made c_classes c_size c_taken c_stateClass c_finerClass c_usedBits c_offsets c_owners ++ (OW oq oc l_out))) [1, 2, 3, 4, 5, 6, 7, 8, 9, 10, 11, 12, 13, 14, 15, 16, 17, 18, 19, 20, 21, 22, 23, 24, 0] (by decide) rfl
  refine lv_i2l (v := u.toInt64) hx hb dL_offset_7 rfl ?_
  refine va_last hx hb hK hP hD hS 24 20 rfl rfl (by unfold vp_in; decide) dL_offset_8 (fun H locs hP hD hS => ?_)
  have hP : va_P D vwCl (CW ad ca c_states c_transitions c_timerEvent c_from c_event c_next c_variable c_relation c_number c_actions c_kind c_a c_b c_present c_now c_emits c_kept c_ignores c_values c_due c_outputs c_fired c_made c_classes c_size c_taken c_stateClass c_finerClass c_usedBits c_offsets c_owners ++ (OW oq oc (vp_updL l_out (0 : Int32).toNatClampNeg u.toInt64))) H := hP
  have hD : va_D A (CW ad ca c_states c_transitions c_timerEvent c_from c_event c_next c_variable c_relation c_number c_actions c_kind c_a c_b c_present c_now c_emits c_kept c_ignores c_values c_due c_outputs c_fired c_made c_classes c_size c_taken c_stateClass c_finerClass c_usedBits c_offsets c_owners ++ (OW oq oc (vp_updL l_out (0 : Int32).toNatClampNeg u.toInt64))) := hD
  refine lv_goto (tgt := 18) hx hb dL_offset_9 (by decide) ?_
  refine lv_iconst (v := (0 : Int32)) hx hb dL_offset_18 (by decide) ?_
  obtain rfl := Option.some.inj hf
  subst hZ
  exact pw_ri hx hb hr hlocks hK hP hD hS (Nat.le_of_ble_eq_true rfl) (Nat.le_of_ble_eq_true rfl) dL_offset_19
abbrev rmL_used : Room := { frames := 9, cells := 2, slots := 12, locals := 152 }
set_option maxHeartbeats 4000000 in
set_option maxRecDepth 100000 in
theorem c_L_used {l : Launch} {D : va_G} {ad : Nat → Nat} {ca : Nat → ClassId} {oq : Nat} {oc : ClassId} (hst : l.stackTraces = false) (c_states c_transitions : Int32) (c_timerEvent c_from c_event c_next c_variable c_relation c_number c_actions c_kind c_a c_b : Nat → Int32) (c_present : Int32) (c_now : Int64) (c_emits c_kept c_ignores : Int32) (c_values : Nat → Int32) (c_due : Nat → Int64) (c_outputs c_fired : Nat → Int32) (c_made c_classes c_size c_taken : Int32) (c_stateClass c_finerClass c_usedBits c_offsets c_owners : Nat → Int32) (l_out : Nat → Int64) (v1 : Int32) {o : Int32 × (Nat → Int64)} (hf : L_used c_made c_classes c_usedBits l_out v1 = some o) : Li l yL_used wsL_used rmL_used D (CT ca ++ (OT oc)) (CW ad ca c_states c_transitions c_timerEvent c_from c_event c_next c_variable c_relation c_number c_actions c_kind c_a c_b c_present c_now c_emits c_kept c_ignores c_values c_due c_outputs c_fired c_made c_classes c_size c_taken c_stateClass c_finerClass c_usedBits c_offsets c_owners ++ (OW oq oc l_out)) [.ref (ad 0), .int v1, .ref oq] o.1 (CW ad ca c_states c_transitions c_timerEvent c_from c_event c_next c_variable c_relation c_number c_actions c_kind c_a c_b c_present c_now c_emits c_kept c_ignores c_values c_due c_outputs c_fired c_made c_classes c_size c_taken c_stateClass c_finerClass c_usedBits c_offsets c_owners ++ (OW oq oc o.2)) := by
  intro sz
  refine pl_entry (Qc := fun A => pw_Qi D (CT ca ++ (OT oc)) (CW ad ca c_states c_transitions c_timerEvent c_from c_event c_next c_variable c_relation c_number c_actions c_kind c_a c_b c_present c_now c_emits c_kept c_ignores c_values c_due c_outputs c_fired c_made c_classes c_size c_taken c_stateClass c_finerClass c_usedBits c_offsets c_owners ++ (OW oq oc o.2)) A o.1) (cc := cL_used) (maxL := 4) (ret := (some .int)) (hh := [(0, 9, 12, 13), (0, 9, 15, 19)]) (by decide) rfl (Nat.le_of_ble_eq_true rfl) ?_ sz
  intro p e s m args below meth c A ls Z H locs hx hb hr hlocks hts hown hml hK hP hD hS hA hl hT htab hZ
  have hown : s.vm.findClass RL = some m.cls := hown
  have kl13 := hts (.classLink RL 13 "java/lang/IllegalStateException") (by decide +kernel)
  have kl19 := hts (.classLink RL 19 "java/lang/IndexOutOfBoundsException") (by decide +kernel)
  have hl : lv_has ls 4 [(0, .ref (ad 0)), (1, .int v1), (2, .ref oq)] := hl
  unfold L_used at hf
  refine lv_aload_n hx hb dL_used_0 rfl (lv_at hl 2 rfl) ?_
  refine lv_iconst (v := (0 : Int32)) hx hb dL_used_1 (by decide) ?_
  refine lv_aload_n hx hb dL_used_2 rfl (lv_at hl 0 rfl) ?_
  refine lv_iload_n hx hb dL_used_3 rfl (lv_at hl 1 rfl) ?_
  obtain ⟨x4, hg4, hfx, hfr⟩ := pr_x hf
  have hKc := hK.sub (tys' := (CT ca)) [0, 1, 2, 3, 4, 5, 6, 7, 8, 9, 10, 11, 12, 13, 14, 15, 16, 17, 18, 19] rfl
  refine px_cViP (b := ad 0) (As := [.int v1]) (rest := [.int (0 : Int32), .ref oq]) ⟨hx, hb, hml, hown, hts⟩ (c_X3_used hst (D := D) c_states c_transitions c_timerEvent c_from c_event c_next c_variable c_relation c_number c_actions c_kind c_a c_b c_present c_now c_emits c_kept c_ignores c_values c_due c_outputs c_fired c_made c_classes c_size c_taken c_stateClass c_finerClass c_usedBits c_offsets c_owners v1 hg4) (cwV 1 hts gL_used_X3_used rfl rfl rfl (by decide +kernel) ⟨Nat.le_of_ble_eq_true rfl, Nat.le_of_ble_eq_true rfl⟩) 0 3 rfl rfl hKc hP hD hS hA [0, 1, 2, 3, 4, 5, 6, 7, 8, 9, 10, 11, 12, 13, 14, 15, 16, 17, 18, 19, 20, 21, 22, 23] [24] rfl rfl (by decide) (by decide) (by decide) hT rfl hl.1 rfl (Nat.le_of_ble_eq_true rfl) dL_used_4 ⟨Nat.le_of_ble_eq_true rfl, Nat.le_of_ble_eq_true rfl⟩ (fun E ce q9 H locs ho hP hD hS hq1 hq2 hq3 => ?_) (fun u H locs ho hP hD hS => ?_)
  · have hf := hfx E ho
    have hP := hP.sub (ws' := (CW ad ca c_states c_transitions c_timerEvent c_from c_event c_next c_variable c_relation c_number c_actions c_kind c_a c_b c_present c_now c_emits c_kept c_ignores c_values c_due c_outputs c_fired c_made c_classes c_size c_taken c_stateClass c_finerClass c_usedBits c_offsets c_owners ++ (OW oq oc l_out))) [1, 2, 3, 4, 5, 6, 7, 8, 9, 10, 11, 12, 13, 14, 15, 16, 17, 18, 19, 20, 21, 22, 23, 24, 0] rfl
    have hD := hD.sub (ws' := (CW ad ca c_states c_transitions c_timerEvent c_from c_event c_next c_variable c_relation c_number c_actions c_kind c_a c_b c_present c_now c_emits c_kept c_ignores c_values c_due c_outputs c_fired c_made c_classes c_size c_taken c_stateClass c_finerClass c_usedBits c_offsets c_owners ++ (OW oq oc l_out))) [1, 2, 3, 4, 5, 6, 7, 8, 9, 10, 11, 12, 13, 14, 15, 16, 17, 18, 19, 20, 21, 22, 23, 24, 0] (by decide) rfl
    by_cases hE0 : E = "java/lang/IllegalStateException"
    · subst hE0
      have hf := pr_t hf rfl
      refine vx_catch (name := "java/lang/IllegalStateException") hown [] ⟨0, 9, 12, 13⟩ [⟨0, 9, 15, 19⟩] (by rw [htab]; rfl) (fun z => (fun hz => by cases hz)) (by decide) (by decide) kl13 (va_Nw.use rfl (hT.2.2.2.1 _ (by decide +kernel))) hq1 hq2 hq3 ?_
      refine W.eq (g2 := F0 m 12 ls [.ref q9]) rfl ?_
      refine lv_astore_n (lv' := [(3, .ref q9), (0, .ref (ad 0)), (1, .int v1), (2, .ref oq)]) hx hb dL_used_12 rfl hl (by decide) rfl (fun ls hl => ?_)
      refine lv_iconst (v := (1 : Int32)) hx hb dL_used_13 (by decide) ?_
      obtain rfl := Option.some.inj hf
      subst hZ
      exact pw_ri hx hb hr hlocks hK hP hD hS (Nat.le_of_ble_eq_true rfl) (Nat.le_of_ble_eq_true rfl) dL_used_14
    have hf := pr_f hf hE0
    by_cases hE1 : E = "java/lang/IndexOutOfBoundsException"
    · subst hE1
      have hf := pr_t hf rfl
      refine vx_catch (name := "java/lang/IndexOutOfBoundsException") hown [⟨0, 9, 12, 13⟩] ⟨0, 9, 15, 19⟩ [] (by rw [htab]; rfl) (fun z => (fun hz => (List.mem_cons.mp hz).elim (fun h9 => by rw [h9]; exact Or.inr ⟨by decide, _, kl13, hT.2.2.2.2.1 _ (by decide +kernel) _ (by decide +kernel) (by decide +kernel)⟩) (fun hz => by cases hz))) (by decide) (by decide) kl19 (va_Nw.use rfl (hT.2.2.2.1 _ (by decide +kernel))) hq1 hq2 hq3 ?_
      refine W.eq (g2 := F0 m 15 ls [.ref q9]) rfl ?_
      refine lv_astore_n (lv' := [(3, .ref q9), (0, .ref (ad 0)), (1, .int v1), (2, .ref oq)]) hx hb dL_used_15 rfl hl (by decide) rfl (fun ls hl => ?_)
      refine lv_iconst (v := (2 : Int32)) hx hb dL_used_16 (by decide) ?_
      obtain rfl := Option.some.inj hf
      subst hZ
      exact pw_ri hx hb hr hlocks hK hP hD hS (Nat.le_of_ble_eq_true rfl) (Nat.le_of_ble_eq_true rfl) dL_used_17
    have hf := pr_f hf hE1
    exact pr_n hf
  have hf := hfr u ho
  have hP := hP.sub (ws' := (CW ad ca c_states c_transitions c_timerEvent c_from c_event c_next c_variable c_relation c_number c_actions c_kind c_a c_b c_present c_now c_emits c_kept c_ignores c_values c_due c_outputs c_fired c_made c_classes c_size c_taken c_stateClass c_finerClass c_usedBits c_offsets c_owners ++ (OW oq oc l_out))) [1, 2, 3, 4, 5, 6, 7, 8, 9, 10, 11, 12, 13, 14, 15, 16, 17, 18, 19, 20, 21, 22, 23, 24, 0] rfl
  have hD := hD.sub (ws' := (CW ad ca c_states c_transitions c_timerEvent c_from c_event c_next c_variable c_relation c_number c_actions c_kind c_a c_b c_present c_now c_emits c_kept c_ignores c_values c_due c_outputs c_fired c_made c_classes c_size c_taken c_stateClass c_finerClass c_usedBits c_offsets c_owners ++ (OW oq oc l_out))) [1, 2, 3, 4, 5, 6, 7, 8, 9, 10, 11, 12, 13, 14, 15, 16, 17, 18, 19, 20, 21, 22, 23, 24, 0] (by decide) rfl
  refine lv_i2l (v := u.toInt64) hx hb dL_used_7 rfl ?_
  refine va_last hx hb hK hP hD hS 24 20 rfl rfl (by unfold vp_in; decide) dL_used_8 (fun H locs hP hD hS => ?_)
  have hP : va_P D vwCl (CW ad ca c_states c_transitions c_timerEvent c_from c_event c_next c_variable c_relation c_number c_actions c_kind c_a c_b c_present c_now c_emits c_kept c_ignores c_values c_due c_outputs c_fired c_made c_classes c_size c_taken c_stateClass c_finerClass c_usedBits c_offsets c_owners ++ (OW oq oc (vp_updL l_out (0 : Int32).toNatClampNeg u.toInt64))) H := hP
  have hD : va_D A (CW ad ca c_states c_transitions c_timerEvent c_from c_event c_next c_variable c_relation c_number c_actions c_kind c_a c_b c_present c_now c_emits c_kept c_ignores c_values c_due c_outputs c_fired c_made c_classes c_size c_taken c_stateClass c_finerClass c_usedBits c_offsets c_owners ++ (OW oq oc (vp_updL l_out (0 : Int32).toNatClampNeg u.toInt64))) := hD
  refine lv_goto (tgt := 18) hx hb dL_used_9 (by decide) ?_
  refine lv_iconst (v := (0 : Int32)) hx hb dL_used_18 (by decide) ?_
  obtain rfl := Option.some.inj hf
  subst hZ
  exact pw_ri hx hb hr hlocks hK hP hD hS (Nat.le_of_ble_eq_true rfl) (Nat.le_of_ble_eq_true rfl) dL_used_19
abbrev rmL_tableSize : Room := { frames := 8, cells := 1, slots := 6, locals := 130 }
set_option maxHeartbeats 4000000 in
set_option maxRecDepth 100000 in
theorem c_L_tableSize {l : Launch} {D : va_G} {ad : Nat → Nat} {ca : Nat → ClassId} {oq : Nat} {oc : ClassId} (hst : l.stackTraces = false) (c_states c_transitions : Int32) (c_timerEvent c_from c_event c_next c_variable c_relation c_number c_actions c_kind c_a c_b : Nat → Int32) (c_present : Int32) (c_now : Int64) (c_emits c_kept c_ignores : Int32) (c_values : Nat → Int32) (c_due : Nat → Int64) (c_outputs c_fired : Nat → Int32) (c_made c_classes c_size c_taken : Int32) (c_stateClass c_finerClass c_usedBits c_offsets c_owners : Nat → Int32) (l_out : Nat → Int64) {o : Int32 × (Nat → Int64)} (hf : L_tableSize c_made c_size l_out = some o) : Li l yL_tableSize wsL_tableSize rmL_tableSize D (CT ca ++ (OT oc)) (CW ad ca c_states c_transitions c_timerEvent c_from c_event c_next c_variable c_relation c_number c_actions c_kind c_a c_b c_present c_now c_emits c_kept c_ignores c_values c_due c_outputs c_fired c_made c_classes c_size c_taken c_stateClass c_finerClass c_usedBits c_offsets c_owners ++ (OW oq oc l_out)) [.ref (ad 0), .ref oq] o.1 (CW ad ca c_states c_transitions c_timerEvent c_from c_event c_next c_variable c_relation c_number c_actions c_kind c_a c_b c_present c_now c_emits c_kept c_ignores c_values c_due c_outputs c_fired c_made c_classes c_size c_taken c_stateClass c_finerClass c_usedBits c_offsets c_owners ++ (OW oq oc o.2)) := by
  intro sz
  refine pl_entry (Qc := fun A => pw_Qi D (CT ca ++ (OT oc)) (CW ad ca c_states c_transitions c_timerEvent c_from c_event c_next c_variable c_relation c_number c_actions c_kind c_a c_b c_present c_now c_emits c_kept c_ignores c_values c_due c_outputs c_fired c_made c_classes c_size c_taken c_stateClass c_finerClass c_usedBits c_offsets c_owners ++ (OW oq oc o.2)) A o.1) (cc := cL_tableSize) (maxL := 3) (ret := (some .int)) (hh := [(0, 8, 11, 13)]) (by decide) rfl (Nat.le_of_ble_eq_true rfl) ?_ sz
  intro p e s m args below meth c A ls Z H locs hx hb hr hlocks hts hown hml hK hP hD hS hA hl hT htab hZ
  have hown : s.vm.findClass RL = some m.cls := hown
  have kl13 := hts (.classLink RL 13 "java/lang/IllegalStateException") (by decide +kernel)
  have hl : lv_has ls 3 [(0, .ref (ad 0)), (1, .ref oq)] := hl
  unfold L_tableSize at hf
  refine lv_aload_n hx hb dL_tableSize_0 rfl (lv_at hl 1 rfl) ?_
  refine lv_iconst (v := (0 : Int32)) hx hb dL_tableSize_1 (by decide) ?_
  refine lv_aload_n hx hb dL_tableSize_2 rfl (lv_at hl 0 rfl) ?_
  obtain ⟨x3, hg3, hfx, hfr⟩ := pr_x hf
  have hKc := hK.sub (tys' := (CT ca)) [0, 1, 2, 3, 4, 5, 6, 7, 8, 9, 10, 11, 12, 13, 14, 15, 16, 17, 18, 19] rfl
  refine px_cViP (b := ad 0) (As := []) (rest := [.int (0 : Int32), .ref oq]) ⟨hx, hb, hml, hown, hts⟩ (c_X3_tableSize hst (D := D) c_states c_transitions c_timerEvent c_from c_event c_next c_variable c_relation c_number c_actions c_kind c_a c_b c_present c_now c_emits c_kept c_ignores c_values c_due c_outputs c_fired c_made c_classes c_size c_taken c_stateClass c_finerClass c_usedBits c_offsets c_owners  hg3) (cwV 0 hts gL_tableSize_X3_tableSize rfl rfl rfl (by decide +kernel) ⟨Nat.le_of_ble_eq_true rfl, Nat.le_of_ble_eq_true rfl⟩) 0 3 rfl rfl hKc hP hD hS hA [0, 1, 2, 3, 4, 5, 6, 7, 8, 9, 10, 11, 12, 13, 14, 15, 16, 17, 18, 19, 20, 21, 22, 23] [24] rfl rfl (by decide) (by decide) (by decide) hT rfl hl.1 rfl (Nat.le_of_ble_eq_true rfl) dL_tableSize_3 ⟨Nat.le_of_ble_eq_true rfl, Nat.le_of_ble_eq_true rfl⟩ (fun E ce q9 H locs ho hP hD hS hq1 hq2 hq3 => ?_) (fun u H locs ho hP hD hS => ?_)
  · have hf := hfx E ho
    have hP := hP.sub (ws' := (CW ad ca c_states c_transitions c_timerEvent c_from c_event c_next c_variable c_relation c_number c_actions c_kind c_a c_b c_present c_now c_emits c_kept c_ignores c_values c_due c_outputs c_fired c_made c_classes c_size c_taken c_stateClass c_finerClass c_usedBits c_offsets c_owners ++ (OW oq oc l_out))) [1, 2, 3, 4, 5, 6, 7, 8, 9, 10, 11, 12, 13, 14, 15, 16, 17, 18, 19, 20, 21, 22, 23, 24, 0] rfl
    have hD := hD.sub (ws' := (CW ad ca c_states c_transitions c_timerEvent c_from c_event c_next c_variable c_relation c_number c_actions c_kind c_a c_b c_present c_now c_emits c_kept c_ignores c_values c_due c_outputs c_fired c_made c_classes c_size c_taken c_stateClass c_finerClass c_usedBits c_offsets c_owners ++ (OW oq oc l_out))) [1, 2, 3, 4, 5, 6, 7, 8, 9, 10, 11, 12, 13, 14, 15, 16, 17, 18, 19, 20, 21, 22, 23, 24, 0] (by decide) rfl
    by_cases hE0 : E = "java/lang/IllegalStateException"
    · subst hE0
      have hf := pr_t hf rfl
      refine vx_catch (name := "java/lang/IllegalStateException") hown [] ⟨0, 8, 11, 13⟩ [] (by rw [htab]; rfl) (fun z => (fun hz => by cases hz)) (by decide) (by decide) kl13 (va_Nw.use rfl (hT.2.2.2.1 _ (by decide +kernel))) hq1 hq2 hq3 ?_
      refine W.eq (g2 := F0 m 11 ls [.ref q9]) rfl ?_
      refine lv_astore_n (lv' := [(2, .ref q9), (0, .ref (ad 0)), (1, .ref oq)]) hx hb dL_tableSize_11 rfl hl (by decide) rfl (fun ls hl => ?_)
      refine lv_iconst (v := (1 : Int32)) hx hb dL_tableSize_12 (by decide) ?_
      obtain rfl := Option.some.inj hf
      subst hZ
      exact pw_ri hx hb hr hlocks hK hP hD hS (Nat.le_of_ble_eq_true rfl) (Nat.le_of_ble_eq_true rfl) dL_tableSize_13
    have hf := pr_f hf hE0
    exact pr_n hf
  have hf := hfr u ho
  have hP := hP.sub (ws' := (CW ad ca c_states c_transitions c_timerEvent c_from c_event c_next c_variable c_relation c_number c_actions c_kind c_a c_b c_present c_now c_emits c_kept c_ignores c_values c_due c_outputs c_fired c_made c_classes c_size c_taken c_stateClass c_finerClass c_usedBits c_offsets c_owners ++ (OW oq oc l_out))) [1, 2, 3, 4, 5, 6, 7, 8, 9, 10, 11, 12, 13, 14, 15, 16, 17, 18, 19, 20, 21, 22, 23, 24, 0] rfl
  have hD := hD.sub (ws' := (CW ad ca c_states c_transitions c_timerEvent c_from c_event c_next c_variable c_relation c_number c_actions c_kind c_a c_b c_present c_now c_emits c_kept c_ignores c_values c_due c_outputs c_fired c_made c_classes c_size c_taken c_stateClass c_finerClass c_usedBits c_offsets c_owners ++ (OW oq oc l_out))) [1, 2, 3, 4, 5, 6, 7, 8, 9, 10, 11, 12, 13, 14, 15, 16, 17, 18, 19, 20, 21, 22, 23, 24, 0] (by decide) rfl
  refine lv_i2l (v := u.toInt64) hx hb dL_tableSize_6 rfl ?_
  refine va_last hx hb hK hP hD hS 24 20 rfl rfl (by unfold vp_in; decide) dL_tableSize_7 (fun H locs hP hD hS => ?_)
  have hP : va_P D vwCl (CW ad ca c_states c_transitions c_timerEvent c_from c_event c_next c_variable c_relation c_number c_actions c_kind c_a c_b c_present c_now c_emits c_kept c_ignores c_values c_due c_outputs c_fired c_made c_classes c_size c_taken c_stateClass c_finerClass c_usedBits c_offsets c_owners ++ (OW oq oc (vp_updL l_out (0 : Int32).toNatClampNeg u.toInt64))) H := hP
  have hD : va_D A (CW ad ca c_states c_transitions c_timerEvent c_from c_event c_next c_variable c_relation c_number c_actions c_kind c_a c_b c_present c_now c_emits c_kept c_ignores c_values c_due c_outputs c_fired c_made c_classes c_size c_taken c_stateClass c_finerClass c_usedBits c_offsets c_owners ++ (OW oq oc (vp_updL l_out (0 : Int32).toNatClampNeg u.toInt64))) := hD
  refine lv_goto (tgt := 14) hx hb dL_tableSize_8 (by decide) ?_
  refine lv_iconst (v := (0 : Int32)) hx hb dL_tableSize_14 (by decide) ?_
  obtain rfl := Option.some.inj hf
  subst hZ
  exact pw_ri hx hb hr hlocks hK hP hD hS (Nat.le_of_ble_eq_true rfl) (Nat.le_of_ble_eq_true rfl) dL_tableSize_15
abbrev rmL_owner : Room := { frames := 8, cells := 2, slots := 12, locals := 131 }
set_option maxHeartbeats 4000000 in
set_option maxRecDepth 100000 in
theorem c_L_owner {l : Launch} {D : va_G} {ad : Nat → Nat} {ca : Nat → ClassId} {oq : Nat} {oc : ClassId} (hst : l.stackTraces = false) (c_states c_transitions : Int32) (c_timerEvent c_from c_event c_next c_variable c_relation c_number c_actions c_kind c_a c_b : Nat → Int32) (c_present : Int32) (c_now : Int64) (c_emits c_kept c_ignores : Int32) (c_values : Nat → Int32) (c_due : Nat → Int64) (c_outputs c_fired : Nat → Int32) (c_made c_classes c_size c_taken : Int32) (c_stateClass c_finerClass c_usedBits c_offsets c_owners : Nat → Int32) (l_out : Nat → Int64) (v1 : Int32) {o : Int32 × (Nat → Int64)} (hf : L_owner c_made c_size c_owners l_out v1 = some o) : Li l yL_owner wsL_owner rmL_owner D (CT ca ++ (OT oc)) (CW ad ca c_states c_transitions c_timerEvent c_from c_event c_next c_variable c_relation c_number c_actions c_kind c_a c_b c_present c_now c_emits c_kept c_ignores c_values c_due c_outputs c_fired c_made c_classes c_size c_taken c_stateClass c_finerClass c_usedBits c_offsets c_owners ++ (OW oq oc l_out)) [.ref (ad 0), .int v1, .ref oq] o.1 (CW ad ca c_states c_transitions c_timerEvent c_from c_event c_next c_variable c_relation c_number c_actions c_kind c_a c_b c_present c_now c_emits c_kept c_ignores c_values c_due c_outputs c_fired c_made c_classes c_size c_taken c_stateClass c_finerClass c_usedBits c_offsets c_owners ++ (OW oq oc o.2)) := by
  intro sz
  refine pl_entry (Qc := fun A => pw_Qi D (CT ca ++ (OT oc)) (CW ad ca c_states c_transitions c_timerEvent c_from c_event c_next c_variable c_relation c_number c_actions c_kind c_a c_b c_present c_now c_emits c_kept c_ignores c_values c_due c_outputs c_fired c_made c_classes c_size c_taken c_stateClass c_finerClass c_usedBits c_offsets c_owners ++ (OW oq oc o.2)) A o.1) (cc := cL_owner) (maxL := 4) (ret := (some .int)) (hh := [(0, 9, 12, 13), (0, 9, 15, 19)]) (by decide) rfl (Nat.le_of_ble_eq_true rfl) ?_ sz
  intro p e s m args below meth c A ls Z H locs hx hb hr hlocks hts hown hml hK hP hD hS hA hl hT htab hZ
  have hown : s.vm.findClass RL = some m.cls := hown
  have kl13 := hts (.classLink RL 13 "java/lang/IllegalStateException") (by decide +kernel)
  have kl19 := hts (.classLink RL 19 "java/lang/IndexOutOfBoundsException") (by decide +kernel)
  have hl : lv_has ls 4 [(0, .ref (ad 0)), (1, .int v1), (2, .ref oq)] := hl
  unfold L_owner at hf
  refine lv_aload_n hx hb dL_owner_0 rfl (lv_at hl 2 rfl) ?_
  refine lv_iconst (v := (0 : Int32)) hx hb dL_owner_1 (by decide) ?_
  refine lv_aload_n hx hb dL_owner_2 rfl (lv_at hl 0 rfl) ?_
  refine lv_iload_n hx hb dL_owner_3 rfl (lv_at hl 1 rfl) ?_
  obtain ⟨x4, hg4, hfx, hfr⟩ := pr_x hf
  have hKc := hK.sub (tys' := (CT ca)) [0, 1, 2, 3, 4, 5, 6, 7, 8, 9, 10, 11, 12, 13, 14, 15, 16, 17, 18, 19] rfl
  refine px_cViP (b := ad 0) (As := [.int v1]) (rest := [.int (0 : Int32), .ref oq]) ⟨hx, hb, hml, hown, hts⟩ (c_X3_owner hst (D := D) c_states c_transitions c_timerEvent c_from c_event c_next c_variable c_relation c_number c_actions c_kind c_a c_b c_present c_now c_emits c_kept c_ignores c_values c_due c_outputs c_fired c_made c_classes c_size c_taken c_stateClass c_finerClass c_usedBits c_offsets c_owners v1 hg4) (cwV 1 hts gL_owner_X3_owner rfl rfl rfl (by decide +kernel) ⟨Nat.le_of_ble_eq_true rfl, Nat.le_of_ble_eq_true rfl⟩) 0 3 rfl rfl hKc hP hD hS hA [0, 1, 2, 3, 4, 5, 6, 7, 8, 9, 10, 11, 12, 13, 14, 15, 16, 17, 18, 19, 20, 21, 22, 23] [24] rfl rfl (by decide) (by decide) (by decide) hT rfl hl.1 rfl (Nat.le_of_ble_eq_true rfl) dL_owner_4 ⟨Nat.le_of_ble_eq_true rfl, Nat.le_of_ble_eq_true rfl⟩ (fun E ce q9 H locs ho hP hD hS hq1 hq2 hq3 => ?_) (fun u H locs ho hP hD hS => ?_)
  · have hf := hfx E ho
    have hP := hP.sub (ws' := (CW ad ca c_states c_transitions c_timerEvent c_from c_event c_next c_variable c_relation c_number c_actions c_kind c_a c_b c_present c_now c_emits c_kept c_ignores c_values c_due c_outputs c_fired c_made c_classes c_size c_taken c_stateClass c_finerClass c_usedBits c_offsets c_owners ++ (OW oq oc l_out))) [1, 2, 3, 4, 5, 6, 7, 8, 9, 10, 11, 12, 13, 14, 15, 16, 17, 18, 19, 20, 21, 22, 23, 24, 0] rfl
    have hD := hD.sub (ws' := (CW ad ca c_states c_transitions c_timerEvent c_from c_event c_next c_variable c_relation c_number c_actions c_kind c_a c_b c_present c_now c_emits c_kept c_ignores c_values c_due c_outputs c_fired c_made c_classes c_size c_taken c_stateClass c_finerClass c_usedBits c_offsets c_owners ++ (OW oq oc l_out))) [1, 2, 3, 4, 5, 6, 7, 8, 9, 10, 11, 12, 13, 14, 15, 16, 17, 18, 19, 20, 21, 22, 23, 24, 0] (by decide) rfl
    by_cases hE0 : E = "java/lang/IllegalStateException"
    · subst hE0
      have hf := pr_t hf rfl
      refine vx_catch (name := "java/lang/IllegalStateException") hown [] ⟨0, 9, 12, 13⟩ [⟨0, 9, 15, 19⟩] (by rw [htab]; rfl) (fun z => (fun hz => by cases hz)) (by decide) (by decide) kl13 (va_Nw.use rfl (hT.2.2.2.1 _ (by decide +kernel))) hq1 hq2 hq3 ?_
      refine W.eq (g2 := F0 m 12 ls [.ref q9]) rfl ?_
      refine lv_astore_n (lv' := [(3, .ref q9), (0, .ref (ad 0)), (1, .int v1), (2, .ref oq)]) hx hb dL_owner_12 rfl hl (by decide) rfl (fun ls hl => ?_)
      refine lv_iconst (v := (1 : Int32)) hx hb dL_owner_13 (by decide) ?_
      obtain rfl := Option.some.inj hf
      subst hZ
      exact pw_ri hx hb hr hlocks hK hP hD hS (Nat.le_of_ble_eq_true rfl) (Nat.le_of_ble_eq_true rfl) dL_owner_14
    have hf := pr_f hf hE0
    by_cases hE1 : E = "java/lang/IndexOutOfBoundsException"
    · subst hE1
      have hf := pr_t hf rfl
      refine vx_catch (name := "java/lang/IndexOutOfBoundsException") hown [⟨0, 9, 12, 13⟩] ⟨0, 9, 15, 19⟩ [] (by rw [htab]; rfl) (fun z => (fun hz => (List.mem_cons.mp hz).elim (fun h9 => by rw [h9]; exact Or.inr ⟨by decide, _, kl13, hT.2.2.2.2.1 _ (by decide +kernel) _ (by decide +kernel) (by decide +kernel)⟩) (fun hz => by cases hz))) (by decide) (by decide) kl19 (va_Nw.use rfl (hT.2.2.2.1 _ (by decide +kernel))) hq1 hq2 hq3 ?_
      refine W.eq (g2 := F0 m 15 ls [.ref q9]) rfl ?_
      refine lv_astore_n (lv' := [(3, .ref q9), (0, .ref (ad 0)), (1, .int v1), (2, .ref oq)]) hx hb dL_owner_15 rfl hl (by decide) rfl (fun ls hl => ?_)
      refine lv_iconst (v := (2 : Int32)) hx hb dL_owner_16 (by decide) ?_
      obtain rfl := Option.some.inj hf
      subst hZ
      exact pw_ri hx hb hr hlocks hK hP hD hS (Nat.le_of_ble_eq_true rfl) (Nat.le_of_ble_eq_true rfl) dL_owner_17
    have hf := pr_f hf hE1
    exact pr_n hf
  have hf := hfr u ho
  have hP := hP.sub (ws' := (CW ad ca c_states c_transitions c_timerEvent c_from c_event c_next c_variable c_relation c_number c_actions c_kind c_a c_b c_present c_now c_emits c_kept c_ignores c_values c_due c_outputs c_fired c_made c_classes c_size c_taken c_stateClass c_finerClass c_usedBits c_offsets c_owners ++ (OW oq oc l_out))) [1, 2, 3, 4, 5, 6, 7, 8, 9, 10, 11, 12, 13, 14, 15, 16, 17, 18, 19, 20, 21, 22, 23, 24, 0] rfl
  have hD := hD.sub (ws' := (CW ad ca c_states c_transitions c_timerEvent c_from c_event c_next c_variable c_relation c_number c_actions c_kind c_a c_b c_present c_now c_emits c_kept c_ignores c_values c_due c_outputs c_fired c_made c_classes c_size c_taken c_stateClass c_finerClass c_usedBits c_offsets c_owners ++ (OW oq oc l_out))) [1, 2, 3, 4, 5, 6, 7, 8, 9, 10, 11, 12, 13, 14, 15, 16, 17, 18, 19, 20, 21, 22, 23, 24, 0] (by decide) rfl
  refine lv_i2l (v := u.toInt64) hx hb dL_owner_7 rfl ?_
  refine va_last hx hb hK hP hD hS 24 20 rfl rfl (by unfold vp_in; decide) dL_owner_8 (fun H locs hP hD hS => ?_)
  have hP : va_P D vwCl (CW ad ca c_states c_transitions c_timerEvent c_from c_event c_next c_variable c_relation c_number c_actions c_kind c_a c_b c_present c_now c_emits c_kept c_ignores c_values c_due c_outputs c_fired c_made c_classes c_size c_taken c_stateClass c_finerClass c_usedBits c_offsets c_owners ++ (OW oq oc (vp_updL l_out (0 : Int32).toNatClampNeg u.toInt64))) H := hP
  have hD : va_D A (CW ad ca c_states c_transitions c_timerEvent c_from c_event c_next c_variable c_relation c_number c_actions c_kind c_a c_b c_present c_now c_emits c_kept c_ignores c_values c_due c_outputs c_fired c_made c_classes c_size c_taken c_stateClass c_finerClass c_usedBits c_offsets c_owners ++ (OW oq oc (vp_updL l_out (0 : Int32).toNatClampNeg u.toInt64))) := hD
  refine lv_goto (tgt := 18) hx hb dL_owner_9 (by decide) ?_
  refine lv_iconst (v := (0 : Int32)) hx hb dL_owner_18 (by decide) ?_
  obtain rfl := Option.some.inj hf
  subst hZ
  exact pw_ri hx hb hr hlocks hK hP hD hS (Nat.le_of_ble_eq_true rfl) (Nat.le_of_ble_eq_true rfl) dL_owner_19
abbrev rmL_density : Room := { frames := 8, cells := 1, slots := 6, locals := 130 }
set_option maxHeartbeats 4000000 in
set_option maxRecDepth 100000 in
theorem c_L_density {l : Launch} {D : va_G} {ad : Nat → Nat} {ca : Nat → ClassId} {oqD : Nat} {ocD : ClassId} (hst : l.stackTraces = false) (c_states c_transitions : Int32) (c_timerEvent c_from c_event c_next c_variable c_relation c_number c_actions c_kind c_a c_b : Nat → Int32) (c_present : Int32) (c_now : Int64) (c_emits c_kept c_ignores : Int32) (c_values : Nat → Int32) (c_due : Nat → Int64) (c_outputs c_fired : Nat → Int32) (c_made c_classes c_size c_taken : Int32) (c_stateClass c_finerClass c_usedBits c_offsets c_owners : Nat → Int32) (l_outD : Nat → UInt64) {o : Int32 × (Nat → UInt64)} (hf : L_density c_made c_size c_taken l_outD = some o) : Li l yL_density wsL_density rmL_density D (CT ca ++ (DT ocD)) (CW ad ca c_states c_transitions c_timerEvent c_from c_event c_next c_variable c_relation c_number c_actions c_kind c_a c_b c_present c_now c_emits c_kept c_ignores c_values c_due c_outputs c_fired c_made c_classes c_size c_taken c_stateClass c_finerClass c_usedBits c_offsets c_owners ++ (DW oqD ocD l_outD)) [.ref (ad 0), .ref oqD] o.1 (CW ad ca c_states c_transitions c_timerEvent c_from c_event c_next c_variable c_relation c_number c_actions c_kind c_a c_b c_present c_now c_emits c_kept c_ignores c_values c_due c_outputs c_fired c_made c_classes c_size c_taken c_stateClass c_finerClass c_usedBits c_offsets c_owners ++ (DW oqD ocD o.2)) := by
  intro sz
  refine pl_entry (Qc := fun A => pw_Qi D (CT ca ++ (DT ocD)) (CW ad ca c_states c_transitions c_timerEvent c_from c_event c_next c_variable c_relation c_number c_actions c_kind c_a c_b c_present c_now c_emits c_kept c_ignores c_values c_due c_outputs c_fired c_made c_classes c_size c_taken c_stateClass c_finerClass c_usedBits c_offsets c_owners ++ (DW oqD ocD o.2)) A o.1) (cc := cL_density) (maxL := 3) (ret := (some .int)) (hh := [(0, 7, 10, 13)]) (by decide) rfl (Nat.le_of_ble_eq_true rfl) ?_ sz
  intro p e s m args below meth c A ls Z H locs hx hb hr hlocks hts hown hml hK hP hD hS hA hl hT htab hZ
  have hown : s.vm.findClass RL = some m.cls := hown
  have kl13 := hts (.classLink RL 13 "java/lang/IllegalStateException") (by decide +kernel)
  have hl : lv_has ls 3 [(0, .ref (ad 0)), (1, .ref oqD)] := hl
  unfold L_density at hf
  refine lv_aload_n hx hb dL_density_0 rfl (lv_at hl 1 rfl) ?_
  refine lv_iconst (v := (0 : Int32)) hx hb dL_density_1 (by decide) ?_
  refine lv_aload_n hx hb dL_density_2 rfl (lv_at hl 0 rfl) ?_
  obtain ⟨x3, hg3, hfx, hfr⟩ := pr_x hf
  have hKc := hK.sub (tys' := (CT ca)) [0, 1, 2, 3, 4, 5, 6, 7, 8, 9, 10, 11, 12, 13, 14, 15, 16, 17, 18, 19] rfl
  refine px_cVdP (b := ad 0) (As := []) (rest := [.int (0 : Int32), .ref oqD]) ⟨hx, hb, hml, hown, hts⟩ (c_X3_density hst (D := D) c_states c_transitions c_timerEvent c_from c_event c_next c_variable c_relation c_number c_actions c_kind c_a c_b c_present c_now c_emits c_kept c_ignores c_values c_due c_outputs c_fired c_made c_classes c_size c_taken c_stateClass c_finerClass c_usedBits c_offsets c_owners  hg3) (cwV 0 hts gL_density_X3_density rfl rfl rfl (by decide +kernel) ⟨Nat.le_of_ble_eq_true rfl, Nat.le_of_ble_eq_true rfl⟩) 0 3 rfl rfl hKc hP hD hS hA [0, 1, 2, 3, 4, 5, 6, 7, 8, 9, 10, 11, 12, 13, 14, 15, 16, 17, 18, 19, 20, 21, 22, 23] [24] rfl rfl (by decide) (by decide) (by decide) hT rfl hl.1 rfl (Nat.le_of_ble_eq_true rfl) dL_density_3 ⟨Nat.le_of_ble_eq_true rfl, Nat.le_of_ble_eq_true rfl⟩ (fun E ce q9 H locs ho hP hD hS hq1 hq2 hq3 => ?_) (fun u H locs ho hP hD hS => ?_)
  · have hf := hfx E ho
    have hP := hP.sub (ws' := (CW ad ca c_states c_transitions c_timerEvent c_from c_event c_next c_variable c_relation c_number c_actions c_kind c_a c_b c_present c_now c_emits c_kept c_ignores c_values c_due c_outputs c_fired c_made c_classes c_size c_taken c_stateClass c_finerClass c_usedBits c_offsets c_owners ++ (DW oqD ocD l_outD))) [1, 2, 3, 4, 5, 6, 7, 8, 9, 10, 11, 12, 13, 14, 15, 16, 17, 18, 19, 20, 21, 22, 23, 24, 0] rfl
    have hD := hD.sub (ws' := (CW ad ca c_states c_transitions c_timerEvent c_from c_event c_next c_variable c_relation c_number c_actions c_kind c_a c_b c_present c_now c_emits c_kept c_ignores c_values c_due c_outputs c_fired c_made c_classes c_size c_taken c_stateClass c_finerClass c_usedBits c_offsets c_owners ++ (DW oqD ocD l_outD))) [1, 2, 3, 4, 5, 6, 7, 8, 9, 10, 11, 12, 13, 14, 15, 16, 17, 18, 19, 20, 21, 22, 23, 24, 0] (by decide) rfl
    by_cases hE0 : E = "java/lang/IllegalStateException"
    · subst hE0
      have hf := pr_t hf rfl
      refine vx_catch (name := "java/lang/IllegalStateException") hown [] ⟨0, 7, 10, 13⟩ [] (by rw [htab]; rfl) (fun z => (fun hz => by cases hz)) (by decide) (by decide) kl13 (va_Nw.use rfl (hT.2.2.2.1 _ (by decide +kernel))) hq1 hq2 hq3 ?_
      refine W.eq (g2 := F0 m 10 ls [.ref q9]) rfl ?_
      refine lv_astore_n (lv' := [(2, .ref q9), (0, .ref (ad 0)), (1, .ref oqD)]) hx hb dL_density_10 rfl hl (by decide) rfl (fun ls hl => ?_)
      refine lv_iconst (v := (1 : Int32)) hx hb dL_density_11 (by decide) ?_
      obtain rfl := Option.some.inj hf
      subst hZ
      exact pw_ri hx hb hr hlocks hK hP hD hS (Nat.le_of_ble_eq_true rfl) (Nat.le_of_ble_eq_true rfl) dL_density_12
    have hf := pr_f hf hE0
    exact pr_n hf
  have hf := hfr u ho
  have hP := hP.sub (ws' := (CW ad ca c_states c_transitions c_timerEvent c_from c_event c_next c_variable c_relation c_number c_actions c_kind c_a c_b c_present c_now c_emits c_kept c_ignores c_values c_due c_outputs c_fired c_made c_classes c_size c_taken c_stateClass c_finerClass c_usedBits c_offsets c_owners ++ (DW oqD ocD l_outD))) [1, 2, 3, 4, 5, 6, 7, 8, 9, 10, 11, 12, 13, 14, 15, 16, 17, 18, 19, 20, 21, 22, 23, 24, 0] rfl
  have hD := hD.sub (ws' := (CW ad ca c_states c_transitions c_timerEvent c_from c_event c_next c_variable c_relation c_number c_actions c_kind c_a c_b c_present c_now c_emits c_kept c_ignores c_values c_due c_outputs c_fired c_made c_classes c_size c_taken c_stateClass c_finerClass c_usedBits c_offsets c_owners ++ (DW oqD ocD l_outD))) [1, 2, 3, 4, 5, 6, 7, 8, 9, 10, 11, 12, 13, 14, 15, 16, 17, 18, 19, 20, 21, 22, 23, 24, 0] (by decide) rfl
  refine va_dast hx hb hK hP hD hS 24 20 rfl rfl (by unfold vp_in; decide) dL_density_6 (fun H locs hP hD hS => ?_)
  have hP : va_P D vwCl (CW ad ca c_states c_transitions c_timerEvent c_from c_event c_next c_variable c_relation c_number c_actions c_kind c_a c_b c_present c_now c_emits c_kept c_ignores c_values c_due c_outputs c_fired c_made c_classes c_size c_taken c_stateClass c_finerClass c_usedBits c_offsets c_owners ++ (DW oqD ocD (vf_upd l_outD (0 : Int32).toNatClampNeg u))) H := hP
  have hD : va_D A (CW ad ca c_states c_transitions c_timerEvent c_from c_event c_next c_variable c_relation c_number c_actions c_kind c_a c_b c_present c_now c_emits c_kept c_ignores c_values c_due c_outputs c_fired c_made c_classes c_size c_taken c_stateClass c_finerClass c_usedBits c_offsets c_owners ++ (DW oqD ocD (vf_upd l_outD (0 : Int32).toNatClampNeg u))) := hD
  refine lv_goto (tgt := 13) hx hb dL_density_7 (by decide) ?_
  refine lv_iconst (v := (0 : Int32)) hx hb dL_density_13 (by decide) ?_
  obtain rfl := Option.some.inj hf
  subst hZ
  exact pw_ri hx hb hr hlocks hK hP hD hS (Nat.le_of_ble_eq_true rfl) (Nat.le_of_ble_eq_true rfl) dL_density_14
