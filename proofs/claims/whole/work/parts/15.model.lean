abbrev rmX4_thrown : Room := { frames := 0, cells := 0, slots := 0, locals := 0 }
set_option maxHeartbeats 4000000 in
set_option maxRecDepth 100000 in
theorem c_X4_thrown {l : Launch} {D : va_G} {bd : Nat → Nat} {cb : Nat → ClassId} (m_thrown m_states : Int32) (m_timerEvents : Nat → Int32) (m_transitions : Int32) (m_froms m_events m_variables m_relations m_numbers m_nexts m_sizes m_actions m_fired : Nat → Int32) (m_state : Int32) (m_time : Int64) (m_values m_runs : Nat → Int32) (m_dues : Nat → Int64) (m_emitted : Int32) (m_output : Nat → Int32) (m_ignored m_isCompiled m_classes : Int32) (m_numbersOf m_offsets m_useds : Nat → Int32) (m_tableSize : Int32) (m_owners m_isReached m_areApart : Nat → Int32) {o : Int32} (hf : X4_thrown m_thrown = some o) : Ci l yX4_thrown wsX4_thrown rmX4_thrown D (MT cb) (MW bd cb m_thrown m_states m_timerEvents m_transitions m_froms m_events m_variables m_relations m_numbers m_nexts m_sizes m_actions m_fired m_state m_time m_values m_runs m_dues m_emitted m_output m_ignored m_isCompiled m_classes m_numbersOf m_offsets m_useds m_tableSize m_owners m_isReached m_areApart) [.ref (bd 0)] o (MW bd cb m_thrown m_states m_timerEvents m_transitions m_froms m_events m_variables m_relations m_numbers m_nexts m_sizes m_actions m_fired m_state m_time m_values m_runs m_dues m_emitted m_output m_ignored m_isCompiled m_classes m_numbersOf m_offsets m_useds m_tableSize m_owners m_isReached m_areApart) := by
  intro sz
  refine pw_entry (Qc := fun A => pw_Qi D (MT cb) (MW bd cb m_thrown m_states m_timerEvents m_transitions m_froms m_events m_variables m_relations m_numbers m_nexts m_sizes m_actions m_fired m_state m_time m_values m_runs m_dues m_emitted m_output m_ignored m_isCompiled m_classes m_numbersOf m_offsets m_useds m_tableSize m_owners m_isReached m_areApart) A o) (cc := cX4_thrown) (maxL := 1) (ret := (some .int)) (by decide) rfl (Nat.le_of_ble_eq_true rfl) ?_ sz
  intro p e s m args below meth c A ls Z H locs hx hb hr hlocks hts hown hml hnm hK hP hD hS hA hl hZ
  have hown : s.vm.findClass RX4 = some m.cls := hown
  have hiX4 : ∀ w ∈ u_ws RX4 TX4 30, w ∈ wsX4_thrown := by decide +kernel
  have f76 := hts (.fieldLink RX4 76 "ProtocolMachineModel" "thrown" "I") (by decide +kernel)
  have hl : lv_has ls 1 [(0, .ref (bd 0))] := hl
  unfold X4_thrown at hf
  refine lv_aload_n hx hb dX4_thrown_0 rfl (lv_at hl 0 rfl) ?_
  refine va_get (D := D) (ci := 4) (v := .int m_thrown) (C := RX4) (T := TX4) (N := 30) hx hb hts hiX4 hown hK hP 0 rfl rfl 0 (by decide) f76 (fun _ h9 => h9) rfl dX4_thrown_1 ?_
  obtain rfl := Option.some.inj hf
  subst hZ
  exact pw_ri hx hb hr hlocks hK hP hD hS (Nat.le_of_ble_eq_true rfl) (Nat.le_of_ble_eq_true rfl) dX4_thrown_4
abbrev rmX4_fail : Room := { frames := 0, cells := 0, slots := 0, locals := 0 }
set_option maxHeartbeats 4000000 in
set_option maxRecDepth 100000 in
theorem c_X4_fail {l : Launch} {D : va_G} {bd : Nat → Nat} {cb : Nat → ClassId} (m_thrown m_states : Int32) (m_timerEvents : Nat → Int32) (m_transitions : Int32) (m_froms m_events m_variables m_relations m_numbers m_nexts m_sizes m_actions m_fired : Nat → Int32) (m_state : Int32) (m_time : Int64) (m_values m_runs : Nat → Int32) (m_dues : Nat → Int64) (m_emitted : Int32) (m_output : Nat → Int32) (m_ignored m_isCompiled m_classes : Int32) (m_numbersOf m_offsets m_useds : Nat → Int32) (m_tableSize : Int32) (m_owners m_isReached m_areApart : Nat → Int32) (v1 : Int32) {o : Int32 × Int32} (hf : X4_fail m_thrown v1 = some o) : Ci l yX4_fail wsX4_fail rmX4_fail D (MT cb) (MW bd cb m_thrown m_states m_timerEvents m_transitions m_froms m_events m_variables m_relations m_numbers m_nexts m_sizes m_actions m_fired m_state m_time m_values m_runs m_dues m_emitted m_output m_ignored m_isCompiled m_classes m_numbersOf m_offsets m_useds m_tableSize m_owners m_isReached m_areApart) [.ref (bd 0), .int v1] o.1 (MW bd cb o.2 m_states m_timerEvents m_transitions m_froms m_events m_variables m_relations m_numbers m_nexts m_sizes m_actions m_fired m_state m_time m_values m_runs m_dues m_emitted m_output m_ignored m_isCompiled m_classes m_numbersOf m_offsets m_useds m_tableSize m_owners m_isReached m_areApart) := by
  intro sz
  refine pw_entry (Qc := fun A => pw_Qi D (MT cb) (MW bd cb o.2 m_states m_timerEvents m_transitions m_froms m_events m_variables m_relations m_numbers m_nexts m_sizes m_actions m_fired m_state m_time m_values m_runs m_dues m_emitted m_output m_ignored m_isCompiled m_classes m_numbersOf m_offsets m_useds m_tableSize m_owners m_isReached m_areApart) A o.1) (cc := cX4_fail) (maxL := 2) (ret := (some .int)) (by decide) rfl (Nat.le_of_ble_eq_true rfl) ?_ sz
  intro p e s m args below meth c A ls Z H locs hx hb hr hlocks hts hown hml hnm hK hP hD hS hA hl hZ
  have hown : s.vm.findClass RX4 = some m.cls := hown
  have hiX4 : ∀ w ∈ u_ws RX4 TX4 30, w ∈ wsX4_fail := by decide +kernel
  have f76 := hts (.fieldLink RX4 76 "ProtocolMachineModel" "thrown" "I") (by decide +kernel)
  have hl : lv_has ls 2 [(0, .ref (bd 0)), (1, .int v1)] := hl
  unfold X4_fail at hf
  refine lv_aload_n hx hb dX4_fail_0 rfl (lv_at hl 0 rfl) ?_
  refine lv_iload_n hx hb dX4_fail_1 rfl (lv_at hl 1 rfl) ?_
  refine va_put (D := D) (ci := 4) (v := .int v1) (ty := .int) (C := RX4) (T := TX4) (N := 30) hx hb hts hiX4 tyX4 tyX4_ok nmX4 hown hK hP hD hS 0 rfl rfl 0 (by decide) f76 (fun _ h9 => h9) rfl (by decide +kernel) rfl rfl (Nat.le_of_ble_eq_true rfl) dX4_fail_2 (fun H locs hP hD hS => ?_)
  have hP : va_P D vwCl (MW bd cb v1 m_states m_timerEvents m_transitions m_froms m_events m_variables m_relations m_numbers m_nexts m_sizes m_actions m_fired m_state m_time m_values m_runs m_dues m_emitted m_output m_ignored m_isCompiled m_classes m_numbersOf m_offsets m_useds m_tableSize m_owners m_isReached m_areApart) H := hP
  have hD : va_D A (MW bd cb v1 m_states m_timerEvents m_transitions m_froms m_events m_variables m_relations m_numbers m_nexts m_sizes m_actions m_fired m_state m_time m_values m_runs m_dues m_emitted m_output m_ignored m_isCompiled m_classes m_numbersOf m_offsets m_useds m_tableSize m_owners m_isReached m_areApart) := hD
  refine lv_iconst (v := (0 : Int32)) hx hb dX4_fail_5 (by decide) ?_
  obtain rfl := Option.some.inj hf
  subst hZ
  exact pw_ri hx hb hr hlocks hK hP hD hS (Nat.le_of_ble_eq_true rfl) (Nat.le_of_ble_eq_true rfl) dX4_fail_6
abbrev rmX4_isState : Room := { frames := 1, cells := 0, slots := 0, locals := 22 }
set_option maxHeartbeats 4000000 in
set_option maxRecDepth 100000 in
theorem c_X4_isState {l : Launch} {D : va_G} {bd : Nat → Nat} {cb : Nat → ClassId} (m_thrown m_states : Int32) (m_timerEvents : Nat → Int32) (m_transitions : Int32) (m_froms m_events m_variables m_relations m_numbers m_nexts m_sizes m_actions m_fired : Nat → Int32) (m_state : Int32) (m_time : Int64) (m_values m_runs : Nat → Int32) (m_dues : Nat → Int64) (m_emitted : Int32) (m_output : Nat → Int32) (m_ignored m_isCompiled m_classes : Int32) (m_numbersOf m_offsets m_useds : Nat → Int32) (m_tableSize : Int32) (m_owners m_isReached m_areApart : Nat → Int32) (v1 : Int32) {o : Int32} (hf : X4_isState m_states v1 = some o) : Ci l yX4_isState wsX4_isState rmX4_isState D (MT cb) (MW bd cb m_thrown m_states m_timerEvents m_transitions m_froms m_events m_variables m_relations m_numbers m_nexts m_sizes m_actions m_fired m_state m_time m_values m_runs m_dues m_emitted m_output m_ignored m_isCompiled m_classes m_numbersOf m_offsets m_useds m_tableSize m_owners m_isReached m_areApart) [.ref (bd 0), .int v1] o (MW bd cb m_thrown m_states m_timerEvents m_transitions m_froms m_events m_variables m_relations m_numbers m_nexts m_sizes m_actions m_fired m_state m_time m_values m_runs m_dues m_emitted m_output m_ignored m_isCompiled m_classes m_numbersOf m_offsets m_useds m_tableSize m_owners m_isReached m_areApart) := by
  intro sz
  refine pw_entry (Qc := fun A => pw_Qi D (MT cb) (MW bd cb m_thrown m_states m_timerEvents m_transitions m_froms m_events m_variables m_relations m_numbers m_nexts m_sizes m_actions m_fired m_state m_time m_values m_runs m_dues m_emitted m_output m_ignored m_isCompiled m_classes m_numbersOf m_offsets m_useds m_tableSize m_owners m_isReached m_areApart) A o) (cc := cX4_isState) (maxL := 2) (ret := (some .boolean)) (by decide) rfl (Nat.le_of_ble_eq_true rfl) ?_ sz
  intro p e s m args below meth c A ls Z H locs hx hb hr hlocks hts hown hml hnm hK hP hD hS hA hl hZ
  have hown : s.vm.findClass RX4 = some m.cls := hown
  have hiX4 : ∀ w ∈ u_ws RX4 TX4 30, w ∈ wsX4_isState := by decide +kernel
  have f7 := hts (.fieldLink RX4 7 "ProtocolMachineModel" "states" "I") (by decide +kernel)
  have hl : lv_has ls 2 [(0, .ref (bd 0)), (1, .int v1)] := hl
  unfold X4_isState at hf
  refine lv_iload_n hx hb dX4_isState_0 rfl (lv_at hl 1 rfl) ?_
  refine lv_iconst (v := (0 : Int32)) hx hb dX4_isState_1 (by decide) ?_
  refine lv_aload_n hx hb dX4_isState_2 rfl (lv_at hl 0 rfl) ?_
  refine va_get (D := D) (ci := 4) (v := .int m_states) (C := RX4) (T := TX4) (N := 30) hx hb hts hiX4 hown hK hP 0 rfl rfl 1 (by decide) f7 (fun _ h9 => h9) rfl dX4_isState_3 ?_
  refine lv_iconst (v := (1 : Int32)) hx hb dX4_isState_6 (by decide) ?_
  refine lv_isub hx hb dX4_isState_7 ?_
  obtain ⟨x8, hg8, hf⟩ := pr_b hf
  refine pw_cSiE (As := [.int v1, .int (0 : Int32), .int (m_states - (1 : Int32))]) (rest := []) ⟨hx, hb, hml, hown, hts⟩ (c_X4_isIn (D := D) (tys := (MT cb)) v1 (0 : Int32) (m_states - (1 : Int32)) hg8) (va_cwS 3 hts gX4_isState_X4_isIn rfl rfl rfl (by decide +kernel) ⟨Nat.le_of_ble_eq_true rfl, Nat.le_of_ble_eq_true rfl⟩) hK hP hD hS hA rfl hl.1 rfl (Nat.le_of_ble_eq_true rfl) dX4_isState_8 ⟨Nat.le_of_ble_eq_true rfl, Nat.le_of_ble_eq_true rfl⟩ (fun H locs hP hD hS => ?_)
  obtain ⟨hn, hf⟩ := pr_nz hf
  obtain rfl := Option.some.inj hf
  subst hZ
  exact pw_rz hx hb hr hlocks hn hK hP hD hS (Nat.le_of_ble_eq_true rfl) (Nat.le_of_ble_eq_true rfl) dX4_isState_11
abbrev rmX4_isTransition : Room := { frames := 1, cells := 0, slots := 0, locals := 22 }
set_option maxHeartbeats 4000000 in
set_option maxRecDepth 100000 in
theorem c_X4_isTransition {l : Launch} {D : va_G} {bd : Nat → Nat} {cb : Nat → ClassId} (m_thrown m_states : Int32) (m_timerEvents : Nat → Int32) (m_transitions : Int32) (m_froms m_events m_variables m_relations m_numbers m_nexts m_sizes m_actions m_fired : Nat → Int32) (m_state : Int32) (m_time : Int64) (m_values m_runs : Nat → Int32) (m_dues : Nat → Int64) (m_emitted : Int32) (m_output : Nat → Int32) (m_ignored m_isCompiled m_classes : Int32) (m_numbersOf m_offsets m_useds : Nat → Int32) (m_tableSize : Int32) (m_owners m_isReached m_areApart : Nat → Int32) (v1 : Int32) {o : Int32} (hf : X4_isTransition m_transitions v1 = some o) : Ci l yX4_isTransition wsX4_isTransition rmX4_isTransition D (MT cb) (MW bd cb m_thrown m_states m_timerEvents m_transitions m_froms m_events m_variables m_relations m_numbers m_nexts m_sizes m_actions m_fired m_state m_time m_values m_runs m_dues m_emitted m_output m_ignored m_isCompiled m_classes m_numbersOf m_offsets m_useds m_tableSize m_owners m_isReached m_areApart) [.ref (bd 0), .int v1] o (MW bd cb m_thrown m_states m_timerEvents m_transitions m_froms m_events m_variables m_relations m_numbers m_nexts m_sizes m_actions m_fired m_state m_time m_values m_runs m_dues m_emitted m_output m_ignored m_isCompiled m_classes m_numbersOf m_offsets m_useds m_tableSize m_owners m_isReached m_areApart) := by
  intro sz
  refine pw_entry (Qc := fun A => pw_Qi D (MT cb) (MW bd cb m_thrown m_states m_timerEvents m_transitions m_froms m_events m_variables m_relations m_numbers m_nexts m_sizes m_actions m_fired m_state m_time m_values m_runs m_dues m_emitted m_output m_ignored m_isCompiled m_classes m_numbersOf m_offsets m_useds m_tableSize m_owners m_isReached m_areApart) A o) (cc := cX4_isTransition) (maxL := 2) (ret := (some .boolean)) (by decide) rfl (Nat.le_of_ble_eq_true rfl) ?_ sz
  intro p e s m args below meth c A ls Z H locs hx hb hr hlocks hts hown hml hnm hK hP hD hS hA hl hZ
  have hown : s.vm.findClass RX4 = some m.cls := hown
  have hiX4 : ∀ w ∈ u_ws RX4 TX4 30, w ∈ wsX4_isTransition := by decide +kernel
  have f83 := hts (.fieldLink RX4 83 "ProtocolMachineModel" "transitions" "I") (by decide +kernel)
  have hl : lv_has ls 2 [(0, .ref (bd 0)), (1, .int v1)] := hl
  unfold X4_isTransition at hf
  refine lv_iload_n hx hb dX4_isTransition_0 rfl (lv_at hl 1 rfl) ?_
  refine lv_iconst (v := (0 : Int32)) hx hb dX4_isTransition_1 (by decide) ?_
  refine lv_aload_n hx hb dX4_isTransition_2 rfl (lv_at hl 0 rfl) ?_
  refine va_get (D := D) (ci := 4) (v := .int m_transitions) (C := RX4) (T := TX4) (N := 30) hx hb hts hiX4 hown hK hP 0 rfl rfl 3 (by decide) f83 (fun _ h9 => h9) rfl dX4_isTransition_3 ?_
  refine lv_iconst (v := (1 : Int32)) hx hb dX4_isTransition_6 (by decide) ?_
  refine lv_isub hx hb dX4_isTransition_7 ?_
  obtain ⟨x8, hg8, hf⟩ := pr_b hf
  refine pw_cSiE (As := [.int v1, .int (0 : Int32), .int (m_transitions - (1 : Int32))]) (rest := []) ⟨hx, hb, hml, hown, hts⟩ (c_X4_isIn (D := D) (tys := (MT cb)) v1 (0 : Int32) (m_transitions - (1 : Int32)) hg8) (va_cwS 3 hts gX4_isTransition_X4_isIn rfl rfl rfl (by decide +kernel) ⟨Nat.le_of_ble_eq_true rfl, Nat.le_of_ble_eq_true rfl⟩) hK hP hD hS hA rfl hl.1 rfl (Nat.le_of_ble_eq_true rfl) dX4_isTransition_8 ⟨Nat.le_of_ble_eq_true rfl, Nat.le_of_ble_eq_true rfl⟩ (fun H locs hP hD hS => ?_)
  obtain ⟨hn, hf⟩ := pr_nz hf
  obtain rfl := Option.some.inj hf
  subst hZ
  exact pw_rz hx hb hr hlocks hn hK hP hD hS (Nat.le_of_ble_eq_true rfl) (Nat.le_of_ble_eq_true rfl) dX4_isTransition_11
abbrev rmX4_addState : Room := { frames := 1, cells := 0, slots := 0, locals := 21 }
set_option maxHeartbeats 4000000 in
set_option maxRecDepth 100000 in
theorem c_X4_addState {l : Launch} {D : va_G} {bd : Nat → Nat} {cb : Nat → ClassId} (m_thrown m_states : Int32) (m_timerEvents : Nat → Int32) (m_transitions : Int32) (m_froms m_events m_variables m_relations m_numbers m_nexts m_sizes m_actions m_fired : Nat → Int32) (m_state : Int32) (m_time : Int64) (m_values m_runs : Nat → Int32) (m_dues : Nat → Int64) (m_emitted : Int32) (m_output : Nat → Int32) (m_ignored m_isCompiled m_classes : Int32) (m_numbersOf m_offsets m_useds : Nat → Int32) (m_tableSize : Int32) (m_owners m_isReached m_areApart : Nat → Int32) {o : Int32 × Int32 × Int32 × Int32} (hf : X4_addState m_thrown m_states m_isCompiled = some o) : Ci l yX4_addState wsX4_addState rmX4_addState D (MT cb) (MW bd cb m_thrown m_states m_timerEvents m_transitions m_froms m_events m_variables m_relations m_numbers m_nexts m_sizes m_actions m_fired m_state m_time m_values m_runs m_dues m_emitted m_output m_ignored m_isCompiled m_classes m_numbersOf m_offsets m_useds m_tableSize m_owners m_isReached m_areApart) [.ref (bd 0)] o.1 (MW bd cb o.2.1 o.2.2.1 m_timerEvents m_transitions m_froms m_events m_variables m_relations m_numbers m_nexts m_sizes m_actions m_fired m_state m_time m_values m_runs m_dues m_emitted m_output m_ignored o.2.2.2 m_classes m_numbersOf m_offsets m_useds m_tableSize m_owners m_isReached m_areApart) := by
  intro sz
  refine pw_entry (Qc := fun A => pw_Qi D (MT cb) (MW bd cb o.2.1 o.2.2.1 m_timerEvents m_transitions m_froms m_events m_variables m_relations m_numbers m_nexts m_sizes m_actions m_fired m_state m_time m_values m_runs m_dues m_emitted m_output m_ignored o.2.2.2 m_classes m_numbersOf m_offsets m_useds m_tableSize m_owners m_isReached m_areApart) A o.1) (cc := cX4_addState) (maxL := 1) (ret := (some .int)) (by decide) rfl (Nat.le_of_ble_eq_true rfl) ?_ sz
  intro p e s m args below meth c A ls Z H locs hx hb hr hlocks hts hown hml hnm hK hP hD hS hA hl hZ
  have hown : s.vm.findClass RX4 = some m.cls := hown
  have hiX4 : ∀ w ∈ u_ws RX4 TX4 30, w ∈ wsX4_addState := by decide +kernel
  have f7 := hts (.fieldLink RX4 7 "ProtocolMachineModel" "states" "I") (by decide +kernel)
  have f76 := hts (.fieldLink RX4 76 "ProtocolMachineModel" "thrown" "I") (by decide +kernel)
  have f90 := hts (.fieldLink RX4 90 "ProtocolMachineModel" "isCompiled" "Z") (by decide +kernel)
  have hl : lv_has ls 1 [(0, .ref (bd 0))] := hl
  unfold X4_addState at hf
  refine lv_aload_n hx hb dX4_addState_0 rfl (lv_at hl 0 rfl) ?_
  refine lv_iconst (v := (0 : Int32)) hx hb dX4_addState_1 (by decide) ?_
  refine va_put (D := D) (ci := 4) (v := .int (0 : Int32)) (ty := .int) (C := RX4) (T := TX4) (N := 30) hx hb hts hiX4 tyX4 tyX4_ok nmX4 hown hK hP hD hS 0 rfl rfl 0 (by decide) f76 (fun _ h9 => h9) rfl (by decide +kernel) rfl rfl (Nat.le_of_ble_eq_true rfl) dX4_addState_2 (fun H locs hP hD hS => ?_)
  have hP : va_P D vwCl (MW bd cb (0 : Int32) m_states m_timerEvents m_transitions m_froms m_events m_variables m_relations m_numbers m_nexts m_sizes m_actions m_fired m_state m_time m_values m_runs m_dues m_emitted m_output m_ignored m_isCompiled m_classes m_numbersOf m_offsets m_useds m_tableSize m_owners m_isReached m_areApart) H := hP
  have hD : va_D A (MW bd cb (0 : Int32) m_states m_timerEvents m_transitions m_froms m_events m_variables m_relations m_numbers m_nexts m_sizes m_actions m_fired m_state m_time m_values m_runs m_dues m_emitted m_output m_ignored m_isCompiled m_classes m_numbersOf m_offsets m_useds m_tableSize m_owners m_isReached m_areApart) := hD
  refine lv_aload_n hx hb dX4_addState_5 rfl (lv_at hl 0 rfl) ?_
  refine va_get (D := D) (ci := 4) (v := .int m_states) (C := RX4) (T := TX4) (N := 30) hx hb hts hiX4 hown hK hP 0 rfl rfl 1 (by decide) f7 (fun _ h9 => h9) rfl dX4_addState_6 ?_
  refine lv_bipush (v := (12 : Int32)) hx hb dX4_addState_9 (by decide) ?_
  refine lv_icmp_ne (tgt := 20) hx hb dX4_addState_11 (by decide) (fun hc => ?_) (fun hc => ?_)
  · have hf := pr_f hf hc
    refine lv_aload_n hx hb dX4_addState_20 rfl (lv_at hl 0 rfl) ?_
    refine lv_dup hx hb dX4_addState_21 rfl ?_
    refine va_get (D := D) (ci := 4) (v := .int m_states) (C := RX4) (T := TX4) (N := 30) hx hb hts hiX4 hown hK hP 0 rfl rfl 1 (by decide) f7 (fun _ h9 => h9) rfl dX4_addState_22 ?_
    refine lv_iconst (v := (1 : Int32)) hx hb dX4_addState_25 (by decide) ?_
    refine lv_iadd hx hb dX4_addState_26 ?_
    refine va_put (D := D) (ci := 4) (v := .int (m_states + (1 : Int32))) (ty := .int) (C := RX4) (T := TX4) (N := 30) hx hb hts hiX4 tyX4 tyX4_ok nmX4 hown hK hP hD hS 0 rfl rfl 1 (by decide) f7 (fun _ h9 => h9) rfl (by decide +kernel) rfl rfl (Nat.le_of_ble_eq_true rfl) dX4_addState_27 (fun H locs hP hD hS => ?_)
    have hP : va_P D vwCl (MW bd cb (0 : Int32) (m_states + (1 : Int32)) m_timerEvents m_transitions m_froms m_events m_variables m_relations m_numbers m_nexts m_sizes m_actions m_fired m_state m_time m_values m_runs m_dues m_emitted m_output m_ignored m_isCompiled m_classes m_numbersOf m_offsets m_useds m_tableSize m_owners m_isReached m_areApart) H := hP
    have hD : va_D A (MW bd cb (0 : Int32) (m_states + (1 : Int32)) m_timerEvents m_transitions m_froms m_events m_variables m_relations m_numbers m_nexts m_sizes m_actions m_fired m_state m_time m_values m_runs m_dues m_emitted m_output m_ignored m_isCompiled m_classes m_numbersOf m_offsets m_useds m_tableSize m_owners m_isReached m_areApart) := hD
    refine lv_aload_n hx hb dX4_addState_30 rfl (lv_at hl 0 rfl) ?_
    refine lv_iconst (v := (0 : Int32)) hx hb dX4_addState_31 (by decide) ?_
    refine va_put (D := D) (ci := 4) (v := .int (0 : Int32)) (ty := .boolean) (C := RX4) (T := TX4) (N := 30) hx hb hts hiX4 tyX4 tyX4_ok nmX4 hown hK hP hD hS 0 rfl rfl 21 (by decide) f90 (fun _ h9 => h9) rfl (by decide +kernel) rfl rfl (Nat.le_of_ble_eq_true rfl) dX4_addState_32 (fun H locs hP hD hS => ?_)
    have hP : va_P D vwCl (MW bd cb (0 : Int32) (m_states + (1 : Int32)) m_timerEvents m_transitions m_froms m_events m_variables m_relations m_numbers m_nexts m_sizes m_actions m_fired m_state m_time m_values m_runs m_dues m_emitted m_output m_ignored (0 : Int32) m_classes m_numbersOf m_offsets m_useds m_tableSize m_owners m_isReached m_areApart) H := hP
    have hD : va_D A (MW bd cb (0 : Int32) (m_states + (1 : Int32)) m_timerEvents m_transitions m_froms m_events m_variables m_relations m_numbers m_nexts m_sizes m_actions m_fired m_state m_time m_values m_runs m_dues m_emitted m_output m_ignored (0 : Int32) m_classes m_numbersOf m_offsets m_useds m_tableSize m_owners m_isReached m_areApart) := hD
    refine lv_aload_n hx hb dX4_addState_35 rfl (lv_at hl 0 rfl) ?_
    refine va_get (D := D) (ci := 4) (v := .int (m_states + (1 : Int32))) (C := RX4) (T := TX4) (N := 30) hx hb hts hiX4 hown hK hP 0 rfl rfl 1 (by decide) f7 (fun _ h9 => h9) rfl dX4_addState_36 ?_
    refine lv_iconst (v := (1 : Int32)) hx hb dX4_addState_39 (by decide) ?_
    refine lv_isub hx hb dX4_addState_40 ?_
    obtain rfl := Option.some.inj hf
    subst hZ
    exact pw_ri hx hb hr hlocks hK hP hD hS (Nat.le_of_ble_eq_true rfl) (Nat.le_of_ble_eq_true rfl) dX4_addState_41
  · have hf := pr_t hf hc
    refine lv_aload_n hx hb dX4_addState_14 rfl (lv_at hl 0 rfl) ?_
    refine lv_iconst (v := (1 : Int32)) hx hb dX4_addState_15 (by decide) ?_
    obtain ⟨x16, hg16, hf⟩ := pr_b hf
    refine pw_cViW (b := bd 0) (As := [.int (1 : Int32)]) (rest := []) ⟨hx, hb, hml, hown, hts⟩ (c_X4_fail (D := D) (0 : Int32) m_states m_timerEvents m_transitions m_froms m_events m_variables m_relations m_numbers m_nexts m_sizes m_actions m_fired m_state m_time m_values m_runs m_dues m_emitted m_output m_ignored m_isCompiled m_classes m_numbersOf m_offsets m_useds m_tableSize m_owners m_isReached m_areApart (1 : Int32) hg16) (cwV 1 hts gX4_addState_X4_fail rfl rfl rfl (by decide +kernel) ⟨Nat.le_of_ble_eq_true rfl, Nat.le_of_ble_eq_true rfl⟩) 0 4 rfl rfl hK hP hD hS hA rfl hl.1 rfl (Nat.le_of_ble_eq_true rfl) dX4_addState_16 ⟨Nat.le_of_ble_eq_true rfl, Nat.le_of_ble_eq_true rfl⟩ (fun H locs hP hD hS => ?_)
    have hP : va_P D vwCl (MW bd cb x16.2 m_states m_timerEvents m_transitions m_froms m_events m_variables m_relations m_numbers m_nexts m_sizes m_actions m_fired m_state m_time m_values m_runs m_dues m_emitted m_output m_ignored m_isCompiled m_classes m_numbersOf m_offsets m_useds m_tableSize m_owners m_isReached m_areApart) H := hP
    have hD : va_D A (MW bd cb x16.2 m_states m_timerEvents m_transitions m_froms m_events m_variables m_relations m_numbers m_nexts m_sizes m_actions m_fired m_state m_time m_values m_runs m_dues m_emitted m_output m_ignored m_isCompiled m_classes m_numbersOf m_offsets m_useds m_tableSize m_owners m_isReached m_areApart) := hD
    obtain rfl := Option.some.inj hf
    subst hZ
    exact pw_ri hx hb hr hlocks hK hP hD hS (Nat.le_of_ble_eq_true rfl) (Nat.le_of_ble_eq_true rfl) dX4_addState_19
abbrev rmX4_addTransition : Room := { frames := 2, cells := 0, slots := 0, locals := 43 }
set_option maxHeartbeats 4000000 in
set_option maxRecDepth 100000 in
theorem c_X4_addTransition {l : Launch} {D : va_G} {bd : Nat → Nat} {cb : Nat → ClassId} (m_thrown m_states : Int32) (m_timerEvents : Nat → Int32) (m_transitions : Int32) (m_froms m_events m_variables m_relations m_numbers m_nexts m_sizes m_actions m_fired : Nat → Int32) (m_state : Int32) (m_time : Int64) (m_values m_runs : Nat → Int32) (m_dues : Nat → Int64) (m_emitted : Int32) (m_output : Nat → Int32) (m_ignored m_isCompiled m_classes : Int32) (m_numbersOf m_offsets m_useds : Nat → Int32) (m_tableSize : Int32) (m_owners m_isReached m_areApart : Nat → Int32) (v1 v2 v3 v4 v5 v6 : Int32) {o : Int32 × Int32 × Int32 × (Nat → Int32) × (Nat → Int32) × (Nat → Int32) × (Nat → Int32) × (Nat → Int32) × (Nat → Int32) × (Nat → Int32) × (Nat → Int32) × Int32} (hf : X4_addTransition m_thrown m_states m_transitions m_froms m_events m_variables m_relations m_numbers m_nexts m_sizes m_fired m_isCompiled v1 v2 v3 v4 v5 v6 = some o) : Ci l yX4_addTransition wsX4_addTransition rmX4_addTransition D (MT cb) (MW bd cb m_thrown m_states m_timerEvents m_transitions m_froms m_events m_variables m_relations m_numbers m_nexts m_sizes m_actions m_fired m_state m_time m_values m_runs m_dues m_emitted m_output m_ignored m_isCompiled m_classes m_numbersOf m_offsets m_useds m_tableSize m_owners m_isReached m_areApart) [.ref (bd 0), .int v1, .int v2, .int v3, .int v4, .int v5, .int v6] o.1 (MW bd cb o.2.1 m_states m_timerEvents o.2.2.1 o.2.2.2.1 o.2.2.2.2.1 o.2.2.2.2.2.1 o.2.2.2.2.2.2.1 o.2.2.2.2.2.2.2.1 o.2.2.2.2.2.2.2.2.1 o.2.2.2.2.2.2.2.2.2.1 m_actions o.2.2.2.2.2.2.2.2.2.2.1 m_state m_time m_values m_runs m_dues m_emitted m_output m_ignored o.2.2.2.2.2.2.2.2.2.2.2 m_classes m_numbersOf m_offsets m_useds m_tableSize m_owners m_isReached m_areApart) := by
  intro sz
  refine pw_entry (Qc := fun A => pw_Qi D (MT cb) (MW bd cb o.2.1 m_states m_timerEvents o.2.2.1 o.2.2.2.1 o.2.2.2.2.1 o.2.2.2.2.2.1 o.2.2.2.2.2.2.1 o.2.2.2.2.2.2.2.1 o.2.2.2.2.2.2.2.2.1 o.2.2.2.2.2.2.2.2.2.1 m_actions o.2.2.2.2.2.2.2.2.2.2.1 m_state m_time m_values m_runs m_dues m_emitted m_output m_ignored o.2.2.2.2.2.2.2.2.2.2.2 m_classes m_numbersOf m_offsets m_useds m_tableSize m_owners m_isReached m_areApart) A o.1) (cc := cX4_addTransition) (maxL := 7) (ret := (some .int)) (by decide) rfl (Nat.le_of_ble_eq_true rfl) ?_ sz
  intro p e s m args below meth c A ls Z H locs hx hb hr hlocks hts hown hml hnm hK hP hD hS hA hl hZ
  have hown : s.vm.findClass RX4 = some m.cls := hown
  have hiX4 : ∀ w ∈ u_ws RX4 TX4 30, w ∈ wsX4_addTransition := by decide +kernel
  have f17 := hts (.fieldLink RX4 17 "ProtocolMachineModel" "froms" "[I") (by decide +kernel)
  have f20 := hts (.fieldLink RX4 20 "ProtocolMachineModel" "events" "[I") (by decide +kernel)
  have f23 := hts (.fieldLink RX4 23 "ProtocolMachineModel" "variables" "[I") (by decide +kernel)
  have f26 := hts (.fieldLink RX4 26 "ProtocolMachineModel" "relations" "[I") (by decide +kernel)
  have f29 := hts (.fieldLink RX4 29 "ProtocolMachineModel" "numbers" "[I") (by decide +kernel)
  have f32 := hts (.fieldLink RX4 32 "ProtocolMachineModel" "nexts" "[I") (by decide +kernel)
  have f35 := hts (.fieldLink RX4 35 "ProtocolMachineModel" "sizes" "[I") (by decide +kernel)
  have f41 := hts (.fieldLink RX4 41 "ProtocolMachineModel" "fired" "[I") (by decide +kernel)
  have f76 := hts (.fieldLink RX4 76 "ProtocolMachineModel" "thrown" "I") (by decide +kernel)
  have f83 := hts (.fieldLink RX4 83 "ProtocolMachineModel" "transitions" "I") (by decide +kernel)
  have f90 := hts (.fieldLink RX4 90 "ProtocolMachineModel" "isCompiled" "Z") (by decide +kernel)
  have hl : lv_has ls 7 [(0, .ref (bd 0)), (1, .int v1), (2, .int v2), (3, .int v3), (4, .int v4), (5, .int v5), (6, .int v6)] := hl
  have B157 : ∀ (m_thrown : Int32) (m_froms m_events m_variables m_relations : Nat → Int32) (s1 s2 : Int32) (H : Heap) (locs : List Loc) (ls : Array Slot), va_P D vwCl (MW bd cb m_thrown m_states m_timerEvents m_transitions m_froms m_events m_variables m_relations m_numbers m_nexts m_sizes m_actions m_fired m_state m_time m_values m_runs m_dues m_emitted m_output m_ignored m_isCompiled m_classes m_numbersOf m_offsets m_useds m_tableSize m_owners m_isReached m_areApart) H → va_D A (MW bd cb m_thrown m_states m_timerEvents m_transitions m_froms m_events m_variables m_relations m_numbers m_nexts m_sizes m_actions m_fired m_state m_time m_values m_runs m_dues m_emitted m_output m_ignored m_isCompiled m_classes m_numbersOf m_offsets m_useds m_tableSize m_owners m_isReached m_areApart) → va_S A s.heap H locs → lv_has ls 7 [(0, .ref (bd 0)), (6, .int v6)] → X4_addTransition_B157 m_transitions m_numbers m_nexts m_sizes m_fired v6 m_thrown m_froms m_events m_variables m_relations s1 s2 = some o → W p l e rmX4_addTransition s m args below meth c H locs 0 0 Z (F0 m 157 ls [.int s2, .int s1, .ref (bd 6)]) := by
    intro m_thrown m_froms m_events m_variables m_relations s1 s2 H locs ls hP hD hS hl hf
    unfold X4_addTransition_B157 at hf
    obtain ⟨hi157, hf⟩ := pr_in hf
    refine va_iast hx hb hK hP hD hS 6 5 rfl rfl hi157 dX4_addTransition_157 (fun H locs hP hD hS => ?_)
    have hP : va_P D vwCl (MW bd cb m_thrown m_states m_timerEvents m_transitions m_froms m_events m_variables m_relations (upd m_numbers s1.toNatClampNeg s2) m_nexts m_sizes m_actions m_fired m_state m_time m_values m_runs m_dues m_emitted m_output m_ignored m_isCompiled m_classes m_numbersOf m_offsets m_useds m_tableSize m_owners m_isReached m_areApart) H := hP
    have hD : va_D A (MW bd cb m_thrown m_states m_timerEvents m_transitions m_froms m_events m_variables m_relations (upd m_numbers s1.toNatClampNeg s2) m_nexts m_sizes m_actions m_fired m_state m_time m_values m_runs m_dues m_emitted m_output m_ignored m_isCompiled m_classes m_numbersOf m_offsets m_useds m_tableSize m_owners m_isReached m_areApart) := hD
    refine lv_aload_n hx hb dX4_addTransition_158 rfl (lv_at hl 0 rfl) ?_
    refine va_get (D := D) (ci := 4) (v := .ref (bd 7)) (C := RX4) (T := TX4) (N := 30) hx hb hts hiX4 hown hK hP 0 rfl rfl 9 (by decide) f32 (fun _ h9 => h9) rfl dX4_addTransition_159 ?_
    refine lv_aload_n hx hb dX4_addTransition_162 rfl (lv_at hl 0 rfl) ?_
    refine va_get (D := D) (ci := 4) (v := .int m_transitions) (C := RX4) (T := TX4) (N := 30) hx hb hts hiX4 hown hK hP 0 rfl rfl 3 (by decide) f83 (fun _ h9 => h9) rfl dX4_addTransition_163 ?_
    refine lv_iload hx hb dX4_addTransition_166 (lv_at hl 1 rfl) ?_
    obtain ⟨hi168, hf⟩ := pr_in hf
    refine va_iast hx hb hK hP hD hS 7 6 rfl rfl hi168 dX4_addTransition_168 (fun H locs hP hD hS => ?_)
    have hP : va_P D vwCl (MW bd cb m_thrown m_states m_timerEvents m_transitions m_froms m_events m_variables m_relations (upd m_numbers s1.toNatClampNeg s2) (upd m_nexts m_transitions.toNatClampNeg v6) m_sizes m_actions m_fired m_state m_time m_values m_runs m_dues m_emitted m_output m_ignored m_isCompiled m_classes m_numbersOf m_offsets m_useds m_tableSize m_owners m_isReached m_areApart) H := hP
    have hD : va_D A (MW bd cb m_thrown m_states m_timerEvents m_transitions m_froms m_events m_variables m_relations (upd m_numbers s1.toNatClampNeg s2) (upd m_nexts m_transitions.toNatClampNeg v6) m_sizes m_actions m_fired m_state m_time m_values m_runs m_dues m_emitted m_output m_ignored m_isCompiled m_classes m_numbersOf m_offsets m_useds m_tableSize m_owners m_isReached m_areApart) := hD
    refine lv_aload_n hx hb dX4_addTransition_169 rfl (lv_at hl 0 rfl) ?_
    refine va_get (D := D) (ci := 4) (v := .ref (bd 8)) (C := RX4) (T := TX4) (N := 30) hx hb hts hiX4 hown hK hP 0 rfl rfl 10 (by decide) f35 (fun _ h9 => h9) rfl dX4_addTransition_170 ?_
    refine lv_aload_n hx hb dX4_addTransition_173 rfl (lv_at hl 0 rfl) ?_
    refine va_get (D := D) (ci := 4) (v := .int m_transitions) (C := RX4) (T := TX4) (N := 30) hx hb hts hiX4 hown hK hP 0 rfl rfl 3 (by decide) f83 (fun _ h9 => h9) rfl dX4_addTransition_174 ?_
    refine lv_iconst (v := (0 : Int32)) hx hb dX4_addTransition_177 (by decide) ?_
    refine va_iast hx hb hK hP hD hS 8 7 rfl rfl hi168 dX4_addTransition_178 (fun H locs hP hD hS => ?_)
    have hP : va_P D vwCl (MW bd cb m_thrown m_states m_timerEvents m_transitions m_froms m_events m_variables m_relations (upd m_numbers s1.toNatClampNeg s2) (upd m_nexts m_transitions.toNatClampNeg v6) (upd m_sizes m_transitions.toNatClampNeg (0 : Int32)) m_actions m_fired m_state m_time m_values m_runs m_dues m_emitted m_output m_ignored m_isCompiled m_classes m_numbersOf m_offsets m_useds m_tableSize m_owners m_isReached m_areApart) H := hP
    have hD : va_D A (MW bd cb m_thrown m_states m_timerEvents m_transitions m_froms m_events m_variables m_relations (upd m_numbers s1.toNatClampNeg s2) (upd m_nexts m_transitions.toNatClampNeg v6) (upd m_sizes m_transitions.toNatClampNeg (0 : Int32)) m_actions m_fired m_state m_time m_values m_runs m_dues m_emitted m_output m_ignored m_isCompiled m_classes m_numbersOf m_offsets m_useds m_tableSize m_owners m_isReached m_areApart) := hD
    refine lv_aload_n hx hb dX4_addTransition_179 rfl (lv_at hl 0 rfl) ?_
    refine va_get (D := D) (ci := 4) (v := .ref (bd 10)) (C := RX4) (T := TX4) (N := 30) hx hb hts hiX4 hown hK hP 0 rfl rfl 12 (by decide) f41 (fun _ h9 => h9) rfl dX4_addTransition_180 ?_
    refine lv_aload_n hx hb dX4_addTransition_183 rfl (lv_at hl 0 rfl) ?_
    refine va_get (D := D) (ci := 4) (v := .int m_transitions) (C := RX4) (T := TX4) (N := 30) hx hb hts hiX4 hown hK hP 0 rfl rfl 3 (by decide) f83 (fun _ h9 => h9) rfl dX4_addTransition_184 ?_
    refine lv_iconst (v := (0 : Int32)) hx hb dX4_addTransition_187 (by decide) ?_
    refine va_iast hx hb hK hP hD hS 10 9 rfl rfl hi168 dX4_addTransition_188 (fun H locs hP hD hS => ?_)
    have hP : va_P D vwCl (MW bd cb m_thrown m_states m_timerEvents m_transitions m_froms m_events m_variables m_relations (upd m_numbers s1.toNatClampNeg s2) (upd m_nexts m_transitions.toNatClampNeg v6) (upd m_sizes m_transitions.toNatClampNeg (0 : Int32)) m_actions (upd m_fired m_transitions.toNatClampNeg (0 : Int32)) m_state m_time m_values m_runs m_dues m_emitted m_output m_ignored m_isCompiled m_classes m_numbersOf m_offsets m_useds m_tableSize m_owners m_isReached m_areApart) H := hP
    have hD : va_D A (MW bd cb m_thrown m_states m_timerEvents m_transitions m_froms m_events m_variables m_relations (upd m_numbers s1.toNatClampNeg s2) (upd m_nexts m_transitions.toNatClampNeg v6) (upd m_sizes m_transitions.toNatClampNeg (0 : Int32)) m_actions (upd m_fired m_transitions.toNatClampNeg (0 : Int32)) m_state m_time m_values m_runs m_dues m_emitted m_output m_ignored m_isCompiled m_classes m_numbersOf m_offsets m_useds m_tableSize m_owners m_isReached m_areApart) := hD
    refine lv_aload_n hx hb dX4_addTransition_189 rfl (lv_at hl 0 rfl) ?_
    refine lv_dup hx hb dX4_addTransition_190 rfl ?_
    refine va_get (D := D) (ci := 4) (v := .int m_transitions) (C := RX4) (T := TX4) (N := 30) hx hb hts hiX4 hown hK hP 0 rfl rfl 3 (by decide) f83 (fun _ h9 => h9) rfl dX4_addTransition_191 ?_
    refine lv_iconst (v := (1 : Int32)) hx hb dX4_addTransition_194 (by decide) ?_
    refine lv_iadd hx hb dX4_addTransition_195 ?_
    refine va_put (D := D) (ci := 4) (v := .int (m_transitions + (1 : Int32))) (ty := .int) (C := RX4) (T := TX4) (N := 30) hx hb hts hiX4 tyX4 tyX4_ok nmX4 hown hK hP hD hS 0 rfl rfl 3 (by decide) f83 (fun _ h9 => h9) rfl (by decide +kernel) rfl rfl (Nat.le_of_ble_eq_true rfl) dX4_addTransition_196 (fun H locs hP hD hS => ?_)
    have hP : va_P D vwCl (MW bd cb m_thrown m_states m_timerEvents (m_transitions + (1 : Int32)) m_froms m_events m_variables m_relations (upd m_numbers s1.toNatClampNeg s2) (upd m_nexts m_transitions.toNatClampNeg v6) (upd m_sizes m_transitions.toNatClampNeg (0 : Int32)) m_actions (upd m_fired m_transitions.toNatClampNeg (0 : Int32)) m_state m_time m_values m_runs m_dues m_emitted m_output m_ignored m_isCompiled m_classes m_numbersOf m_offsets m_useds m_tableSize m_owners m_isReached m_areApart) H := hP
    have hD : va_D A (MW bd cb m_thrown m_states m_timerEvents (m_transitions + (1 : Int32)) m_froms m_events m_variables m_relations (upd m_numbers s1.toNatClampNeg s2) (upd m_nexts m_transitions.toNatClampNeg v6) (upd m_sizes m_transitions.toNatClampNeg (0 : Int32)) m_actions (upd m_fired m_transitions.toNatClampNeg (0 : Int32)) m_state m_time m_values m_runs m_dues m_emitted m_output m_ignored m_isCompiled m_classes m_numbersOf m_offsets m_useds m_tableSize m_owners m_isReached m_areApart) := hD
    refine lv_aload_n hx hb dX4_addTransition_199 rfl (lv_at hl 0 rfl) ?_
    refine lv_iconst (v := (0 : Int32)) hx hb dX4_addTransition_200 (by decide) ?_
    refine va_put (D := D) (ci := 4) (v := .int (0 : Int32)) (ty := .boolean) (C := RX4) (T := TX4) (N := 30) hx hb hts hiX4 tyX4 tyX4_ok nmX4 hown hK hP hD hS 0 rfl rfl 21 (by decide) f90 (fun _ h9 => h9) rfl (by decide +kernel) rfl rfl (Nat.le_of_ble_eq_true rfl) dX4_addTransition_201 (fun H locs hP hD hS => ?_)
    have hP : va_P D vwCl (MW bd cb m_thrown m_states m_timerEvents (m_transitions + (1 : Int32)) m_froms m_events m_variables m_relations (upd m_numbers s1.toNatClampNeg s2) (upd m_nexts m_transitions.toNatClampNeg v6) (upd m_sizes m_transitions.toNatClampNeg (0 : Int32)) m_actions (upd m_fired m_transitions.toNatClampNeg (0 : Int32)) m_state m_time m_values m_runs m_dues m_emitted m_output m_ignored (0 : Int32) m_classes m_numbersOf m_offsets m_useds m_tableSize m_owners m_isReached m_areApart) H := hP
    have hD : va_D A (MW bd cb m_thrown m_states m_timerEvents (m_transitions + (1 : Int32)) m_froms m_events m_variables m_relations (upd m_numbers s1.toNatClampNeg s2) (upd m_nexts m_transitions.toNatClampNeg v6) (upd m_sizes m_transitions.toNatClampNeg (0 : Int32)) m_actions (upd m_fired m_transitions.toNatClampNeg (0 : Int32)) m_state m_time m_values m_runs m_dues m_emitted m_output m_ignored (0 : Int32) m_classes m_numbersOf m_offsets m_useds m_tableSize m_owners m_isReached m_areApart) := hD
    refine lv_aload_n hx hb dX4_addTransition_204 rfl (lv_at hl 0 rfl) ?_
    refine va_get (D := D) (ci := 4) (v := .int (m_transitions + (1 : Int32))) (C := RX4) (T := TX4) (N := 30) hx hb hts hiX4 hown hK hP 0 rfl rfl 3 (by decide) f83 (fun _ h9 => h9) rfl dX4_addTransition_205 ?_
    refine lv_iconst (v := (1 : Int32)) hx hb dX4_addTransition_208 (by decide) ?_
    refine lv_isub hx hb dX4_addTransition_209 ?_
    obtain rfl := Option.some.inj hf
    subst hZ
    exact pw_ri hx hb hr hlocks hK hP hD hS (Nat.le_of_ble_eq_true rfl) (Nat.le_of_ble_eq_true rfl) dX4_addTransition_210
  have B137 : ∀ (m_thrown : Int32) (m_froms m_events m_variables : Nat → Int32) (s1 s2 : Int32) (H : Heap) (locs : List Loc) (ls : Array Slot), va_P D vwCl (MW bd cb m_thrown m_states m_timerEvents m_transitions m_froms m_events m_variables m_relations m_numbers m_nexts m_sizes m_actions m_fired m_state m_time m_values m_runs m_dues m_emitted m_output m_ignored m_isCompiled m_classes m_numbersOf m_offsets m_useds m_tableSize m_owners m_isReached m_areApart) H → va_D A (MW bd cb m_thrown m_states m_timerEvents m_transitions m_froms m_events m_variables m_relations m_numbers m_nexts m_sizes m_actions m_fired m_state m_time m_values m_runs m_dues m_emitted m_output m_ignored m_isCompiled m_classes m_numbersOf m_offsets m_useds m_tableSize m_owners m_isReached m_areApart) → va_S A s.heap H locs → lv_has ls 7 [(0, .ref (bd 0)), (3, .int v3), (5, .int v5), (6, .int v6)] → X4_addTransition_B137 m_transitions m_relations m_numbers m_nexts m_sizes m_fired v3 v5 v6 m_thrown m_froms m_events m_variables s1 s2 = some o → W p l e rmX4_addTransition s m args below meth c H locs 0 0 Z (F0 m 137 ls [.int s2, .int s1, .ref (bd 5)]) := by
    intro m_thrown m_froms m_events m_variables s1 s2 H locs ls hP hD hS hl hf
    unfold X4_addTransition_B137 at hf
    obtain ⟨hi137, hf⟩ := pr_in hf
    refine va_iast hx hb hK hP hD hS 5 4 rfl rfl hi137 dX4_addTransition_137 (fun H locs hP hD hS => ?_)
    have hP : va_P D vwCl (MW bd cb m_thrown m_states m_timerEvents m_transitions m_froms m_events m_variables (upd m_relations s1.toNatClampNeg s2) m_numbers m_nexts m_sizes m_actions m_fired m_state m_time m_values m_runs m_dues m_emitted m_output m_ignored m_isCompiled m_classes m_numbersOf m_offsets m_useds m_tableSize m_owners m_isReached m_areApart) H := hP
    have hD : va_D A (MW bd cb m_thrown m_states m_timerEvents m_transitions m_froms m_events m_variables (upd m_relations s1.toNatClampNeg s2) m_numbers m_nexts m_sizes m_actions m_fired m_state m_time m_values m_runs m_dues m_emitted m_output m_ignored m_isCompiled m_classes m_numbersOf m_offsets m_useds m_tableSize m_owners m_isReached m_areApart) := hD
    refine lv_aload_n hx hb dX4_addTransition_138 rfl (lv_at hl 0 rfl) ?_
    refine va_get (D := D) (ci := 4) (v := .ref (bd 6)) (C := RX4) (T := TX4) (N := 30) hx hb hts hiX4 hown hK hP 0 rfl rfl 8 (by decide) f29 (fun _ h9 => h9) rfl dX4_addTransition_139 ?_
    refine lv_aload_n hx hb dX4_addTransition_142 rfl (lv_at hl 0 rfl) ?_
    refine va_get (D := D) (ci := 4) (v := .int m_transitions) (C := RX4) (T := TX4) (N := 30) hx hb hts hiX4 hown hK hP 0 rfl rfl 3 (by decide) f83 (fun _ h9 => h9) rfl dX4_addTransition_143 ?_
    refine lv_iload_n hx hb dX4_addTransition_146 rfl (lv_at hl 1 rfl) ?_
    refine lv_iconst (v := (-1 : Int32)) hx hb dX4_addTransition_147 (by decide) ?_
    refine lv_icmp_ne (tgt := 155) hx hb dX4_addTransition_148 (by decide) (fun hc => ?_) (fun hc => ?_)
    · have hf := pr_f hf hc
      refine lv_iload hx hb dX4_addTransition_155 (lv_at hl 2 rfl) ?_
      exact B157 m_thrown m_froms m_events m_variables (upd m_relations s1.toNatClampNeg s2) m_transitions v5 H locs ls hP hD hS (lv_sub hl [0, 3] rfl) hf
    · have hf := pr_t hf hc
      refine lv_iconst (v := (0 : Int32)) hx hb dX4_addTransition_151 (by decide) ?_
      refine lv_goto (tgt := 157) hx hb dX4_addTransition_152 (by decide) ?_
      exact B157 m_thrown m_froms m_events m_variables (upd m_relations s1.toNatClampNeg s2) m_transitions (0 : Int32) H locs ls hP hD hS (lv_sub hl [0, 3] rfl) hf
  have B73 : ∀ (m_thrown : Int32) (H : Heap) (locs : List Loc) (ls : Array Slot), va_P D vwCl (MW bd cb m_thrown m_states m_timerEvents m_transitions m_froms m_events m_variables m_relations m_numbers m_nexts m_sizes m_actions m_fired m_state m_time m_values m_runs m_dues m_emitted m_output m_ignored m_isCompiled m_classes m_numbersOf m_offsets m_useds m_tableSize m_owners m_isReached m_areApart) H → va_D A (MW bd cb m_thrown m_states m_timerEvents m_transitions m_froms m_events m_variables m_relations m_numbers m_nexts m_sizes m_actions m_fired m_state m_time m_values m_runs m_dues m_emitted m_output m_ignored m_isCompiled m_classes m_numbersOf m_offsets m_useds m_tableSize m_owners m_isReached m_areApart) → va_S A s.heap H locs → lv_has ls 7 [(0, .ref (bd 0)), (1, .int v1), (2, .int v2), (3, .int v3), (4, .int v4), (5, .int v5), (6, .int v6)] → X4_addTransition_B73 m_transitions m_froms m_events m_variables m_relations m_numbers m_nexts m_sizes m_fired m_isCompiled v1 v2 v3 v4 v5 v6 m_thrown = some o → W p l e rmX4_addTransition s m args below meth c H locs 0 0 Z (F0 m 73 ls []) := by
    intro m_thrown H locs ls hP hD hS hl hf
    unfold X4_addTransition_B73 at hf
    refine lv_aload_n hx hb dX4_addTransition_73 rfl (lv_at hl 0 rfl) ?_
    refine va_get (D := D) (ci := 4) (v := .int m_transitions) (C := RX4) (T := TX4) (N := 30) hx hb hts hiX4 hown hK hP 0 rfl rfl 3 (by decide) f83 (fun _ h9 => h9) rfl dX4_addTransition_74 ?_
    refine lv_bipush (v := (40 : Int32)) hx hb dX4_addTransition_77 (by decide) ?_
    refine lv_icmp_ne (tgt := 88) hx hb dX4_addTransition_79 (by decide) (fun hc => ?_) (fun hc => ?_)
    · have hf := pr_f hf hc
      refine lv_aload_n hx hb dX4_addTransition_88 rfl (lv_at hl 0 rfl) ?_
      refine va_get (D := D) (ci := 4) (v := .ref (bd 2)) (C := RX4) (T := TX4) (N := 30) hx hb hts hiX4 hown hK hP 0 rfl rfl 4 (by decide) f17 (fun _ h9 => h9) rfl dX4_addTransition_89 ?_
      refine lv_aload_n hx hb dX4_addTransition_92 rfl (lv_at hl 0 rfl) ?_
      refine va_get (D := D) (ci := 4) (v := .int m_transitions) (C := RX4) (T := TX4) (N := 30) hx hb hts hiX4 hown hK hP 0 rfl rfl 3 (by decide) f83 (fun _ h9 => h9) rfl dX4_addTransition_93 ?_
      refine lv_iload_n hx hb dX4_addTransition_96 rfl (lv_at hl 1 rfl) ?_
      obtain ⟨hi97, hf⟩ := pr_in hf
      refine va_iast hx hb hK hP hD hS 2 1 rfl rfl hi97 dX4_addTransition_97 (fun H locs hP hD hS => ?_)
      have hP : va_P D vwCl (MW bd cb m_thrown m_states m_timerEvents m_transitions (upd m_froms m_transitions.toNatClampNeg v1) m_events m_variables m_relations m_numbers m_nexts m_sizes m_actions m_fired m_state m_time m_values m_runs m_dues m_emitted m_output m_ignored m_isCompiled m_classes m_numbersOf m_offsets m_useds m_tableSize m_owners m_isReached m_areApart) H := hP
      have hD : va_D A (MW bd cb m_thrown m_states m_timerEvents m_transitions (upd m_froms m_transitions.toNatClampNeg v1) m_events m_variables m_relations m_numbers m_nexts m_sizes m_actions m_fired m_state m_time m_values m_runs m_dues m_emitted m_output m_ignored m_isCompiled m_classes m_numbersOf m_offsets m_useds m_tableSize m_owners m_isReached m_areApart) := hD
      refine lv_aload_n hx hb dX4_addTransition_98 rfl (lv_at hl 0 rfl) ?_
      refine va_get (D := D) (ci := 4) (v := .ref (bd 3)) (C := RX4) (T := TX4) (N := 30) hx hb hts hiX4 hown hK hP 0 rfl rfl 5 (by decide) f20 (fun _ h9 => h9) rfl dX4_addTransition_99 ?_
      refine lv_aload_n hx hb dX4_addTransition_102 rfl (lv_at hl 0 rfl) ?_
      refine va_get (D := D) (ci := 4) (v := .int m_transitions) (C := RX4) (T := TX4) (N := 30) hx hb hts hiX4 hown hK hP 0 rfl rfl 3 (by decide) f83 (fun _ h9 => h9) rfl dX4_addTransition_103 ?_
      refine lv_iload_n hx hb dX4_addTransition_106 rfl (lv_at hl 2 rfl) ?_
      refine va_iast hx hb hK hP hD hS 3 2 rfl rfl hi97 dX4_addTransition_107 (fun H locs hP hD hS => ?_)
      have hP : va_P D vwCl (MW bd cb m_thrown m_states m_timerEvents m_transitions (upd m_froms m_transitions.toNatClampNeg v1) (upd m_events m_transitions.toNatClampNeg v2) m_variables m_relations m_numbers m_nexts m_sizes m_actions m_fired m_state m_time m_values m_runs m_dues m_emitted m_output m_ignored m_isCompiled m_classes m_numbersOf m_offsets m_useds m_tableSize m_owners m_isReached m_areApart) H := hP
      have hD : va_D A (MW bd cb m_thrown m_states m_timerEvents m_transitions (upd m_froms m_transitions.toNatClampNeg v1) (upd m_events m_transitions.toNatClampNeg v2) m_variables m_relations m_numbers m_nexts m_sizes m_actions m_fired m_state m_time m_values m_runs m_dues m_emitted m_output m_ignored m_isCompiled m_classes m_numbersOf m_offsets m_useds m_tableSize m_owners m_isReached m_areApart) := hD
      refine lv_aload_n hx hb dX4_addTransition_108 rfl (lv_at hl 0 rfl) ?_
      refine va_get (D := D) (ci := 4) (v := .ref (bd 4)) (C := RX4) (T := TX4) (N := 30) hx hb hts hiX4 hown hK hP 0 rfl rfl 6 (by decide) f23 (fun _ h9 => h9) rfl dX4_addTransition_109 ?_
      refine lv_aload_n hx hb dX4_addTransition_112 rfl (lv_at hl 0 rfl) ?_
      refine va_get (D := D) (ci := 4) (v := .int m_transitions) (C := RX4) (T := TX4) (N := 30) hx hb hts hiX4 hown hK hP 0 rfl rfl 3 (by decide) f83 (fun _ h9 => h9) rfl dX4_addTransition_113 ?_
      refine lv_iload_n hx hb dX4_addTransition_116 rfl (lv_at hl 3 rfl) ?_
      refine va_iast hx hb hK hP hD hS 4 3 rfl rfl hi97 dX4_addTransition_117 (fun H locs hP hD hS => ?_)
      have hP : va_P D vwCl (MW bd cb m_thrown m_states m_timerEvents m_transitions (upd m_froms m_transitions.toNatClampNeg v1) (upd m_events m_transitions.toNatClampNeg v2) (upd m_variables m_transitions.toNatClampNeg v3) m_relations m_numbers m_nexts m_sizes m_actions m_fired m_state m_time m_values m_runs m_dues m_emitted m_output m_ignored m_isCompiled m_classes m_numbersOf m_offsets m_useds m_tableSize m_owners m_isReached m_areApart) H := hP
      have hD : va_D A (MW bd cb m_thrown m_states m_timerEvents m_transitions (upd m_froms m_transitions.toNatClampNeg v1) (upd m_events m_transitions.toNatClampNeg v2) (upd m_variables m_transitions.toNatClampNeg v3) m_relations m_numbers m_nexts m_sizes m_actions m_fired m_state m_time m_values m_runs m_dues m_emitted m_output m_ignored m_isCompiled m_classes m_numbersOf m_offsets m_useds m_tableSize m_owners m_isReached m_areApart) := hD
      refine lv_aload_n hx hb dX4_addTransition_118 rfl (lv_at hl 0 rfl) ?_
      refine va_get (D := D) (ci := 4) (v := .ref (bd 5)) (C := RX4) (T := TX4) (N := 30) hx hb hts hiX4 hown hK hP 0 rfl rfl 7 (by decide) f26 (fun _ h9 => h9) rfl dX4_addTransition_119 ?_
      refine lv_aload_n hx hb dX4_addTransition_122 rfl (lv_at hl 0 rfl) ?_
      refine va_get (D := D) (ci := 4) (v := .int m_transitions) (C := RX4) (T := TX4) (N := 30) hx hb hts hiX4 hown hK hP 0 rfl rfl 3 (by decide) f83 (fun _ h9 => h9) rfl dX4_addTransition_123 ?_
      refine lv_iload_n hx hb dX4_addTransition_126 rfl (lv_at hl 3 rfl) ?_
      refine lv_iconst (v := (-1 : Int32)) hx hb dX4_addTransition_127 (by decide) ?_
      refine lv_icmp_ne (tgt := 135) hx hb dX4_addTransition_128 (by decide) (fun hc => ?_) (fun hc => ?_)
      · have hf := pr_f hf hc
        refine lv_iload hx hb dX4_addTransition_135 (lv_at hl 4 rfl) ?_
        exact B137 m_thrown (upd m_froms m_transitions.toNatClampNeg v1) (upd m_events m_transitions.toNatClampNeg v2) (upd m_variables m_transitions.toNatClampNeg v3) m_transitions v4 H locs ls hP hD hS (lv_sub hl [0, 3, 5, 6] rfl) hf
      · have hf := pr_t hf hc
        refine lv_iconst (v := (0 : Int32)) hx hb dX4_addTransition_131 (by decide) ?_
        refine lv_goto (tgt := 137) hx hb dX4_addTransition_132 (by decide) ?_
        exact B137 m_thrown (upd m_froms m_transitions.toNatClampNeg v1) (upd m_events m_transitions.toNatClampNeg v2) (upd m_variables m_transitions.toNatClampNeg v3) m_transitions (0 : Int32) H locs ls hP hD hS (lv_sub hl [0, 3, 5, 6] rfl) hf
    · have hf := pr_t hf hc
      refine lv_aload_n hx hb dX4_addTransition_82 rfl (lv_at hl 0 rfl) ?_
      refine lv_iconst (v := (3 : Int32)) hx hb dX4_addTransition_83 (by decide) ?_
      obtain ⟨x84, hg84, hf⟩ := pr_b hf
      refine pw_cViW (b := bd 0) (As := [.int (3 : Int32)]) (rest := []) ⟨hx, hb, hml, hown, hts⟩ (c_X4_fail (D := D) m_thrown m_states m_timerEvents m_transitions m_froms m_events m_variables m_relations m_numbers m_nexts m_sizes m_actions m_fired m_state m_time m_values m_runs m_dues m_emitted m_output m_ignored m_isCompiled m_classes m_numbersOf m_offsets m_useds m_tableSize m_owners m_isReached m_areApart (3 : Int32) hg84) (cwV 1 hts gX4_addTransition_X4_fail rfl rfl rfl (by decide +kernel) ⟨Nat.le_of_ble_eq_true rfl, Nat.le_of_ble_eq_true rfl⟩) 0 4 rfl rfl hK hP hD hS hA rfl hl.1 rfl (Nat.le_of_ble_eq_true rfl) dX4_addTransition_84 ⟨Nat.le_of_ble_eq_true rfl, Nat.le_of_ble_eq_true rfl⟩ (fun H locs hP hD hS => ?_)
      have hP : va_P D vwCl (MW bd cb x84.2 m_states m_timerEvents m_transitions m_froms m_events m_variables m_relations m_numbers m_nexts m_sizes m_actions m_fired m_state m_time m_values m_runs m_dues m_emitted m_output m_ignored m_isCompiled m_classes m_numbersOf m_offsets m_useds m_tableSize m_owners m_isReached m_areApart) H := hP
      have hD : va_D A (MW bd cb x84.2 m_states m_timerEvents m_transitions m_froms m_events m_variables m_relations m_numbers m_nexts m_sizes m_actions m_fired m_state m_time m_values m_runs m_dues m_emitted m_output m_ignored m_isCompiled m_classes m_numbersOf m_offsets m_useds m_tableSize m_owners m_isReached m_areApart) := hD
      obtain rfl := Option.some.inj hf
      subst hZ
      exact pw_ri hx hb hr hlocks hK hP hD hS (Nat.le_of_ble_eq_true rfl) (Nat.le_of_ble_eq_true rfl) dX4_addTransition_87
  have B67 : ∀ (m_thrown : Int32) (H : Heap) (locs : List Loc) (ls : Array Slot), va_P D vwCl (MW bd cb m_thrown m_states m_timerEvents m_transitions m_froms m_events m_variables m_relations m_numbers m_nexts m_sizes m_actions m_fired m_state m_time m_values m_runs m_dues m_emitted m_output m_ignored m_isCompiled m_classes m_numbersOf m_offsets m_useds m_tableSize m_owners m_isReached m_areApart) H → va_D A (MW bd cb m_thrown m_states m_timerEvents m_transitions m_froms m_events m_variables m_relations m_numbers m_nexts m_sizes m_actions m_fired m_state m_time m_values m_runs m_dues m_emitted m_output m_ignored m_isCompiled m_classes m_numbersOf m_offsets m_useds m_tableSize m_owners m_isReached m_areApart) → va_S A s.heap H locs → lv_has ls 7 [(0, .ref (bd 0))] → X4_addTransition_B67 m_transitions m_froms m_events m_variables m_relations m_numbers m_nexts m_sizes m_fired m_isCompiled m_thrown = some o → W p l e rmX4_addTransition s m args below meth c H locs 0 0 Z (F0 m 67 ls []) := by
    intro m_thrown H locs ls hP hD hS hl hf
    unfold X4_addTransition_B67 at hf
    refine lv_aload_n hx hb dX4_addTransition_67 rfl (lv_at hl 0 rfl) ?_
    refine lv_iconst (v := (2 : Int32)) hx hb dX4_addTransition_68 (by decide) ?_
    obtain ⟨x69, hg69, hf⟩ := pr_b hf
    refine pw_cViW (b := bd 0) (As := [.int (2 : Int32)]) (rest := []) ⟨hx, hb, hml, hown, hts⟩ (c_X4_fail (D := D) m_thrown m_states m_timerEvents m_transitions m_froms m_events m_variables m_relations m_numbers m_nexts m_sizes m_actions m_fired m_state m_time m_values m_runs m_dues m_emitted m_output m_ignored m_isCompiled m_classes m_numbersOf m_offsets m_useds m_tableSize m_owners m_isReached m_areApart (2 : Int32) hg69) (cwV 1 hts gX4_addTransition_X4_fail rfl rfl rfl (by decide +kernel) ⟨Nat.le_of_ble_eq_true rfl, Nat.le_of_ble_eq_true rfl⟩) 0 4 rfl rfl hK hP hD hS hA rfl hl.1 rfl (Nat.le_of_ble_eq_true rfl) dX4_addTransition_69 ⟨Nat.le_of_ble_eq_true rfl, Nat.le_of_ble_eq_true rfl⟩ (fun H locs hP hD hS => ?_)
    have hP : va_P D vwCl (MW bd cb x69.2 m_states m_timerEvents m_transitions m_froms m_events m_variables m_relations m_numbers m_nexts m_sizes m_actions m_fired m_state m_time m_values m_runs m_dues m_emitted m_output m_ignored m_isCompiled m_classes m_numbersOf m_offsets m_useds m_tableSize m_owners m_isReached m_areApart) H := hP
    have hD : va_D A (MW bd cb x69.2 m_states m_timerEvents m_transitions m_froms m_events m_variables m_relations m_numbers m_nexts m_sizes m_actions m_fired m_state m_time m_values m_runs m_dues m_emitted m_output m_ignored m_isCompiled m_classes m_numbersOf m_offsets m_useds m_tableSize m_owners m_isReached m_areApart) := hD
    obtain rfl := Option.some.inj hf
    subst hZ
    exact pw_ri hx hb hr hlocks hK hP hD hS (Nat.le_of_ble_eq_true rfl) (Nat.le_of_ble_eq_true rfl) dX4_addTransition_72
  have B38 : ∀ (m_thrown : Int32) (H : Heap) (locs : List Loc) (ls : Array Slot), va_P D vwCl (MW bd cb m_thrown m_states m_timerEvents m_transitions m_froms m_events m_variables m_relations m_numbers m_nexts m_sizes m_actions m_fired m_state m_time m_values m_runs m_dues m_emitted m_output m_ignored m_isCompiled m_classes m_numbersOf m_offsets m_useds m_tableSize m_owners m_isReached m_areApart) H → va_D A (MW bd cb m_thrown m_states m_timerEvents m_transitions m_froms m_events m_variables m_relations m_numbers m_nexts m_sizes m_actions m_fired m_state m_time m_values m_runs m_dues m_emitted m_output m_ignored m_isCompiled m_classes m_numbersOf m_offsets m_useds m_tableSize m_owners m_isReached m_areApart) → va_S A s.heap H locs → lv_has ls 7 [(0, .ref (bd 0))] → X4_addTransition_B38 m_transitions m_froms m_events m_variables m_relations m_numbers m_nexts m_sizes m_fired m_isCompiled m_thrown = some o → W p l e rmX4_addTransition s m args below meth c H locs 0 0 Z (F0 m 38 ls []) := by
    intro m_thrown H locs ls hP hD hS hl hf
    unfold X4_addTransition_B38 at hf
    refine lv_aload_n hx hb dX4_addTransition_38 rfl (lv_at hl 0 rfl) ?_
    refine lv_iconst (v := (1 : Int32)) hx hb dX4_addTransition_39 (by decide) ?_
    obtain ⟨x40, hg40, hf⟩ := pr_b hf
    refine pw_cViW (b := bd 0) (As := [.int (1 : Int32)]) (rest := []) ⟨hx, hb, hml, hown, hts⟩ (c_X4_fail (D := D) m_thrown m_states m_timerEvents m_transitions m_froms m_events m_variables m_relations m_numbers m_nexts m_sizes m_actions m_fired m_state m_time m_values m_runs m_dues m_emitted m_output m_ignored m_isCompiled m_classes m_numbersOf m_offsets m_useds m_tableSize m_owners m_isReached m_areApart (1 : Int32) hg40) (cwV 1 hts gX4_addTransition_X4_fail rfl rfl rfl (by decide +kernel) ⟨Nat.le_of_ble_eq_true rfl, Nat.le_of_ble_eq_true rfl⟩) 0 4 rfl rfl hK hP hD hS hA rfl hl.1 rfl (Nat.le_of_ble_eq_true rfl) dX4_addTransition_40 ⟨Nat.le_of_ble_eq_true rfl, Nat.le_of_ble_eq_true rfl⟩ (fun H locs hP hD hS => ?_)
    have hP : va_P D vwCl (MW bd cb x40.2 m_states m_timerEvents m_transitions m_froms m_events m_variables m_relations m_numbers m_nexts m_sizes m_actions m_fired m_state m_time m_values m_runs m_dues m_emitted m_output m_ignored m_isCompiled m_classes m_numbersOf m_offsets m_useds m_tableSize m_owners m_isReached m_areApart) H := hP
    have hD : va_D A (MW bd cb x40.2 m_states m_timerEvents m_transitions m_froms m_events m_variables m_relations m_numbers m_nexts m_sizes m_actions m_fired m_state m_time m_values m_runs m_dues m_emitted m_output m_ignored m_isCompiled m_classes m_numbersOf m_offsets m_useds m_tableSize m_owners m_isReached m_areApart) := hD
    obtain rfl := Option.some.inj hf
    subst hZ
    exact pw_ri hx hb hr hlocks hK hP hD hS (Nat.le_of_ble_eq_true rfl) (Nat.le_of_ble_eq_true rfl) dX4_addTransition_43
  unfold X4_addTransition at hf
  refine lv_aload_n hx hb dX4_addTransition_0 rfl (lv_at hl 0 rfl) ?_
  refine lv_iconst (v := (0 : Int32)) hx hb dX4_addTransition_1 (by decide) ?_
  refine va_put (D := D) (ci := 4) (v := .int (0 : Int32)) (ty := .int) (C := RX4) (T := TX4) (N := 30) hx hb hts hiX4 tyX4 tyX4_ok nmX4 hown hK hP hD hS 0 rfl rfl 0 (by decide) f76 (fun _ h9 => h9) rfl (by decide +kernel) rfl rfl (Nat.le_of_ble_eq_true rfl) dX4_addTransition_2 (fun H locs hP hD hS => ?_)
  have hP : va_P D vwCl (MW bd cb (0 : Int32) m_states m_timerEvents m_transitions m_froms m_events m_variables m_relations m_numbers m_nexts m_sizes m_actions m_fired m_state m_time m_values m_runs m_dues m_emitted m_output m_ignored m_isCompiled m_classes m_numbersOf m_offsets m_useds m_tableSize m_owners m_isReached m_areApart) H := hP
  have hD : va_D A (MW bd cb (0 : Int32) m_states m_timerEvents m_transitions m_froms m_events m_variables m_relations m_numbers m_nexts m_sizes m_actions m_fired m_state m_time m_values m_runs m_dues m_emitted m_output m_ignored m_isCompiled m_classes m_numbersOf m_offsets m_useds m_tableSize m_owners m_isReached m_areApart) := hD
  refine lv_aload_n hx hb dX4_addTransition_5 rfl (lv_at hl 0 rfl) ?_
  refine lv_iload_n hx hb dX4_addTransition_6 rfl (lv_at hl 1 rfl) ?_
  obtain ⟨x7, hg7, hf⟩ := pr_b hf
  refine pw_cViW (b := bd 0) (As := [.int v1]) (rest := []) ⟨hx, hb, hml, hown, hts⟩ (c_X4_isState (D := D) (0 : Int32) m_states m_timerEvents m_transitions m_froms m_events m_variables m_relations m_numbers m_nexts m_sizes m_actions m_fired m_state m_time m_values m_runs m_dues m_emitted m_output m_ignored m_isCompiled m_classes m_numbersOf m_offsets m_useds m_tableSize m_owners m_isReached m_areApart v1 hg7) (cwV 1 hts gX4_addTransition_X4_isState rfl rfl rfl (by decide +kernel) ⟨Nat.le_of_ble_eq_true rfl, Nat.le_of_ble_eq_true rfl⟩) 0 4 rfl rfl hK hP hD hS hA rfl hl.1 rfl (Nat.le_of_ble_eq_true rfl) dX4_addTransition_7 ⟨Nat.le_of_ble_eq_true rfl, Nat.le_of_ble_eq_true rfl⟩ (fun H locs hP hD hS => ?_)
  refine lv_if_eq (tgt := 38) hx hb dX4_addTransition_10 (by decide) (fun hc => ?_) (fun hc => ?_)
  · have hf := pr_t hf hc
    exact B38 (0 : Int32) H locs ls hP hD hS (lv_sub hl [0] rfl) hf
  · have hf := pr_f hf hc
    refine lv_iload_n hx hb dX4_addTransition_13 rfl (lv_at hl 2 rfl) ?_
    obtain ⟨x14, hg14, hf⟩ := pr_b hf
    refine pw_cSiE (As := [.int v2]) (rest := []) ⟨hx, hb, hml, hown, hts⟩ (c_X4_isEvent (D := D) (tys := (MT cb)) v2 hg14) (va_cwS 1 hts gX4_addTransition_X4_isEvent rfl rfl rfl (by decide +kernel) ⟨Nat.le_of_ble_eq_true rfl, Nat.le_of_ble_eq_true rfl⟩) hK hP hD hS hA rfl hl.1 rfl (Nat.le_of_ble_eq_true rfl) dX4_addTransition_14 ⟨Nat.le_of_ble_eq_true rfl, Nat.le_of_ble_eq_true rfl⟩ (fun H locs hP hD hS => ?_)
    refine lv_if_eq (tgt := 38) hx hb dX4_addTransition_17 (by decide) (fun hc => ?_) (fun hc => ?_)
    · have hf := pr_t hf hc
      exact B38 (0 : Int32) H locs ls hP hD hS (lv_sub hl [0] rfl) hf
    · have hf := pr_f hf hc
      refine lv_iload_n hx hb dX4_addTransition_20 rfl (lv_at hl 3 rfl) ?_
      refine lv_iconst (v := (-1 : Int32)) hx hb dX4_addTransition_21 (by decide) ?_
      refine lv_iconst (v := (2 : Int32)) hx hb dX4_addTransition_22 (by decide) ?_
      obtain ⟨x23, hg23, hf⟩ := pr_b hf
      refine pw_cSiE (As := [.int v3, .int (-1 : Int32), .int (2 : Int32)]) (rest := []) ⟨hx, hb, hml, hown, hts⟩ (c_X4_isIn (D := D) (tys := (MT cb)) v3 (-1 : Int32) (2 : Int32) hg23) (va_cwS 3 hts gX4_addTransition_X4_isIn rfl rfl rfl (by decide +kernel) ⟨Nat.le_of_ble_eq_true rfl, Nat.le_of_ble_eq_true rfl⟩) hK hP hD hS hA rfl hl.1 rfl (Nat.le_of_ble_eq_true rfl) dX4_addTransition_23 ⟨Nat.le_of_ble_eq_true rfl, Nat.le_of_ble_eq_true rfl⟩ (fun H locs hP hD hS => ?_)
      refine lv_if_eq (tgt := 38) hx hb dX4_addTransition_26 (by decide) (fun hc => ?_) (fun hc => ?_)
      · have hf := pr_t hf hc
        exact B38 (0 : Int32) H locs ls hP hD hS (lv_sub hl [0] rfl) hf
      · have hf := pr_f hf hc
        refine lv_aload_n hx hb dX4_addTransition_29 rfl (lv_at hl 0 rfl) ?_
        refine lv_iload hx hb dX4_addTransition_30 (lv_at hl 6 rfl) ?_
        obtain ⟨x32, hg32, hf⟩ := pr_b hf
        refine pw_cViW (b := bd 0) (As := [.int v6]) (rest := []) ⟨hx, hb, hml, hown, hts⟩ (c_X4_isState (D := D) (0 : Int32) m_states m_timerEvents m_transitions m_froms m_events m_variables m_relations m_numbers m_nexts m_sizes m_actions m_fired m_state m_time m_values m_runs m_dues m_emitted m_output m_ignored m_isCompiled m_classes m_numbersOf m_offsets m_useds m_tableSize m_owners m_isReached m_areApart v6 hg32) (cwV 1 hts gX4_addTransition_X4_isState rfl rfl rfl (by decide +kernel) ⟨Nat.le_of_ble_eq_true rfl, Nat.le_of_ble_eq_true rfl⟩) 0 4 rfl rfl hK hP hD hS hA rfl hl.1 rfl (Nat.le_of_ble_eq_true rfl) dX4_addTransition_32 ⟨Nat.le_of_ble_eq_true rfl, Nat.le_of_ble_eq_true rfl⟩ (fun H locs hP hD hS => ?_)
        refine lv_if_ne (tgt := 44) hx hb dX4_addTransition_35 (by decide) (fun hc => ?_) (fun hc => ?_)
        · have hf := pr_f hf hc
          refine lv_iload_n hx hb dX4_addTransition_44 rfl (lv_at hl 3 rfl) ?_
          refine lv_iconst (v := (-1 : Int32)) hx hb dX4_addTransition_45 (by decide) ?_
          refine lv_icmp_eq (tgt := 73) hx hb dX4_addTransition_46 (by decide) (fun hc => ?_) (fun hc => ?_)
          · have hf := pr_t hf hc
            exact B73 (0 : Int32) H locs ls hP hD hS (lv_sub hl [0, 1, 2, 3, 4, 5, 6] rfl) hf
          · have hf := pr_f hf hc
            refine lv_iload hx hb dX4_addTransition_49 (lv_at hl 4 rfl) ?_
            refine lv_iconst (v := (0 : Int32)) hx hb dX4_addTransition_51 (by decide) ?_
            refine lv_iconst (v := (2 : Int32)) hx hb dX4_addTransition_52 (by decide) ?_
            obtain ⟨x53, hg53, hf⟩ := pr_b hf
            refine pw_cSiE (As := [.int v4, .int (0 : Int32), .int (2 : Int32)]) (rest := []) ⟨hx, hb, hml, hown, hts⟩ (c_X4_isIn (D := D) (tys := (MT cb)) v4 (0 : Int32) (2 : Int32) hg53) (va_cwS 3 hts gX4_addTransition_X4_isIn rfl rfl rfl (by decide +kernel) ⟨Nat.le_of_ble_eq_true rfl, Nat.le_of_ble_eq_true rfl⟩) hK hP hD hS hA rfl hl.1 rfl (Nat.le_of_ble_eq_true rfl) dX4_addTransition_53 ⟨Nat.le_of_ble_eq_true rfl, Nat.le_of_ble_eq_true rfl⟩ (fun H locs hP hD hS => ?_)
            refine lv_if_eq (tgt := 67) hx hb dX4_addTransition_56 (by decide) (fun hc => ?_) (fun hc => ?_)
            · have hf := pr_t hf hc
              exact B67 (0 : Int32) H locs ls hP hD hS (lv_sub hl [0] rfl) hf
            · have hf := pr_f hf hc
              refine lv_iload hx hb dX4_addTransition_59 (lv_at hl 5 rfl) ?_
              obtain ⟨x61, hg61, hf⟩ := pr_b hf
              refine pw_cSiE (As := [.int v5]) (rest := []) ⟨hx, hb, hml, hown, hts⟩ (c_X4_isNumber (D := D) (tys := (MT cb)) v5 hg61) (va_cwS 1 hts gX4_addTransition_X4_isNumber rfl rfl rfl (by decide +kernel) ⟨Nat.le_of_ble_eq_true rfl, Nat.le_of_ble_eq_true rfl⟩) hK hP hD hS hA rfl hl.1 rfl (Nat.le_of_ble_eq_true rfl) dX4_addTransition_61 ⟨Nat.le_of_ble_eq_true rfl, Nat.le_of_ble_eq_true rfl⟩ (fun H locs hP hD hS => ?_)
              refine lv_if_ne (tgt := 73) hx hb dX4_addTransition_64 (by decide) (fun hc => ?_) (fun hc => ?_)
              · have hf := pr_f hf hc
                exact B73 (0 : Int32) H locs ls hP hD hS (lv_sub hl [0, 1, 2, 3, 4, 5, 6] rfl) hf
              · have hf := pr_t hf hc
                exact B67 (0 : Int32) H locs ls hP hD hS (lv_sub hl [0] rfl) hf
        · have hf := pr_t hf hc
          exact B38 (0 : Int32) H locs ls hP hD hS (lv_sub hl [0] rfl) hf
abbrev rmX4_addAction : Room := { frames := 2, cells := 0, slots := 0, locals := 43 }
set_option maxHeartbeats 4000000 in
set_option maxRecDepth 100000 in
theorem c_X4_addAction {l : Launch} {D : va_G} {bd : Nat → Nat} {cb : Nat → ClassId} (m_thrown m_states : Int32) (m_timerEvents : Nat → Int32) (m_transitions : Int32) (m_froms m_events m_variables m_relations m_numbers m_nexts m_sizes m_actions m_fired : Nat → Int32) (m_state : Int32) (m_time : Int64) (m_values m_runs : Nat → Int32) (m_dues : Nat → Int64) (m_emitted : Int32) (m_output : Nat → Int32) (m_ignored m_isCompiled m_classes : Int32) (m_numbersOf m_offsets m_useds : Nat → Int32) (m_tableSize : Int32) (m_owners m_isReached m_areApart : Nat → Int32) (v1 v2 v3 v4 : Int32) {o : Int32 × Int32 × (Nat → Int32) × (Nat → Int32) × Int32} (hf : X4_addAction m_thrown m_transitions m_sizes m_actions m_isCompiled v1 v2 v3 v4 = some o) : Ci l yX4_addAction wsX4_addAction rmX4_addAction D (MT cb) (MW bd cb m_thrown m_states m_timerEvents m_transitions m_froms m_events m_variables m_relations m_numbers m_nexts m_sizes m_actions m_fired m_state m_time m_values m_runs m_dues m_emitted m_output m_ignored m_isCompiled m_classes m_numbersOf m_offsets m_useds m_tableSize m_owners m_isReached m_areApart) [.ref (bd 0), .int v1, .int v2, .int v3, .int v4] o.1 (MW bd cb o.2.1 m_states m_timerEvents m_transitions m_froms m_events m_variables m_relations m_numbers m_nexts o.2.2.1 o.2.2.2.1 m_fired m_state m_time m_values m_runs m_dues m_emitted m_output m_ignored o.2.2.2.2 m_classes m_numbersOf m_offsets m_useds m_tableSize m_owners m_isReached m_areApart) := by
  intro sz
  refine pw_entry (Qc := fun A => pw_Qi D (MT cb) (MW bd cb o.2.1 m_states m_timerEvents m_transitions m_froms m_events m_variables m_relations m_numbers m_nexts o.2.2.1 o.2.2.2.1 m_fired m_state m_time m_values m_runs m_dues m_emitted m_output m_ignored o.2.2.2.2 m_classes m_numbersOf m_offsets m_useds m_tableSize m_owners m_isReached m_areApart) A o.1) (cc := cX4_addAction) (maxL := 7) (ret := (some .int)) (by decide) rfl (Nat.le_of_ble_eq_true rfl) ?_ sz
  intro p e s m args below meth c A ls Z H locs hx hb hr hlocks hts hown hml hnm hK hP hD hS hA hl hZ
  have hown : s.vm.findClass RX4 = some m.cls := hown
  have hiX4 : ∀ w ∈ u_ws RX4 TX4 30, w ∈ wsX4_addAction := by decide +kernel
  have f35 := hts (.fieldLink RX4 35 "ProtocolMachineModel" "sizes" "[I") (by decide +kernel)
  have f38 := hts (.fieldLink RX4 38 "ProtocolMachineModel" "actions" "[I") (by decide +kernel)
  have f76 := hts (.fieldLink RX4 76 "ProtocolMachineModel" "thrown" "I") (by decide +kernel)
  have f90 := hts (.fieldLink RX4 90 "ProtocolMachineModel" "isCompiled" "Z") (by decide +kernel)
  have hl : lv_has ls 7 [(0, .ref (bd 0)), (1, .int v1), (2, .int v2), (3, .int v3), (4, .int v4)] := hl
  have B201 : ∀ (m_thrown : Int32) (m_actions : Nat → Int32) (s1 s2 : Int32) (H : Heap) (locs : List Loc) (ls : Array Slot), va_P D vwCl (MW bd cb m_thrown m_states m_timerEvents m_transitions m_froms m_events m_variables m_relations m_numbers m_nexts m_sizes m_actions m_fired m_state m_time m_values m_runs m_dues m_emitted m_output m_ignored m_isCompiled m_classes m_numbersOf m_offsets m_useds m_tableSize m_owners m_isReached m_areApart) H → va_D A (MW bd cb m_thrown m_states m_timerEvents m_transitions m_froms m_events m_variables m_relations m_numbers m_nexts m_sizes m_actions m_fired m_state m_time m_values m_runs m_dues m_emitted m_output m_ignored m_isCompiled m_classes m_numbersOf m_offsets m_useds m_tableSize m_owners m_isReached m_areApart) → va_S A s.heap H locs → lv_has ls 7 [(0, .ref (bd 0)), (1, .int v1)] → X4_addAction_B201 m_sizes v1 m_thrown m_actions s1 s2 = some o → W p l e rmX4_addAction s m args below meth c H locs 0 0 Z (F0 m 201 ls [.int s2, .int s1, .ref (bd 9)]) := by
    intro m_thrown m_actions s1 s2 H locs ls hP hD hS hl hf
    unfold X4_addAction_B201 at hf
    obtain ⟨hi201, hf⟩ := pr_in hf
    refine va_iast hx hb hK hP hD hS 9 8 rfl rfl hi201 dX4_addAction_201 (fun H locs hP hD hS => ?_)
    have hP : va_P D vwCl (MW bd cb m_thrown m_states m_timerEvents m_transitions m_froms m_events m_variables m_relations m_numbers m_nexts m_sizes (upd m_actions s1.toNatClampNeg s2) m_fired m_state m_time m_values m_runs m_dues m_emitted m_output m_ignored m_isCompiled m_classes m_numbersOf m_offsets m_useds m_tableSize m_owners m_isReached m_areApart) H := hP
    have hD : va_D A (MW bd cb m_thrown m_states m_timerEvents m_transitions m_froms m_events m_variables m_relations m_numbers m_nexts m_sizes (upd m_actions s1.toNatClampNeg s2) m_fired m_state m_time m_values m_runs m_dues m_emitted m_output m_ignored m_isCompiled m_classes m_numbersOf m_offsets m_useds m_tableSize m_owners m_isReached m_areApart) := hD
    refine lv_aload_n hx hb dX4_addAction_202 rfl (lv_at hl 0 rfl) ?_
    refine va_get (D := D) (ci := 4) (v := .ref (bd 8)) (C := RX4) (T := TX4) (N := 30) hx hb hts hiX4 hown hK hP 0 rfl rfl 10 (by decide) f35 (fun _ h9 => h9) rfl dX4_addAction_203 ?_
    refine lv_iload_n hx hb dX4_addAction_206 rfl (lv_at hl 1 rfl) ?_
    refine lv_dup2_11 hx hb dX4_addAction_207 rfl rfl ?_
    obtain ⟨hi208, hf⟩ := pr_in hf
    refine va_iald hx hb hK hP 8 7 rfl rfl hi208 dX4_addAction_208 ?_
    refine lv_iconst (v := (1 : Int32)) hx hb dX4_addAction_209 (by decide) ?_
    refine lv_iadd hx hb dX4_addAction_210 ?_
    refine va_iast hx hb hK hP hD hS 8 7 rfl rfl hi208 dX4_addAction_211 (fun H locs hP hD hS => ?_)
    have hP : va_P D vwCl (MW bd cb m_thrown m_states m_timerEvents m_transitions m_froms m_events m_variables m_relations m_numbers m_nexts (upd m_sizes v1.toNatClampNeg ((m_sizes v1.toNatClampNeg) + (1 : Int32))) (upd m_actions s1.toNatClampNeg s2) m_fired m_state m_time m_values m_runs m_dues m_emitted m_output m_ignored m_isCompiled m_classes m_numbersOf m_offsets m_useds m_tableSize m_owners m_isReached m_areApart) H := hP
    have hD : va_D A (MW bd cb m_thrown m_states m_timerEvents m_transitions m_froms m_events m_variables m_relations m_numbers m_nexts (upd m_sizes v1.toNatClampNeg ((m_sizes v1.toNatClampNeg) + (1 : Int32))) (upd m_actions s1.toNatClampNeg s2) m_fired m_state m_time m_values m_runs m_dues m_emitted m_output m_ignored m_isCompiled m_classes m_numbersOf m_offsets m_useds m_tableSize m_owners m_isReached m_areApart) := hD
    refine lv_aload_n hx hb dX4_addAction_212 rfl (lv_at hl 0 rfl) ?_
    refine lv_iconst (v := (0 : Int32)) hx hb dX4_addAction_213 (by decide) ?_
    refine va_put (D := D) (ci := 4) (v := .int (0 : Int32)) (ty := .boolean) (C := RX4) (T := TX4) (N := 30) hx hb hts hiX4 tyX4 tyX4_ok nmX4 hown hK hP hD hS 0 rfl rfl 21 (by decide) f90 (fun _ h9 => h9) rfl (by decide +kernel) rfl rfl (Nat.le_of_ble_eq_true rfl) dX4_addAction_214 (fun H locs hP hD hS => ?_)
    have hP : va_P D vwCl (MW bd cb m_thrown m_states m_timerEvents m_transitions m_froms m_events m_variables m_relations m_numbers m_nexts (upd m_sizes v1.toNatClampNeg ((m_sizes v1.toNatClampNeg) + (1 : Int32))) (upd m_actions s1.toNatClampNeg s2) m_fired m_state m_time m_values m_runs m_dues m_emitted m_output m_ignored (0 : Int32) m_classes m_numbersOf m_offsets m_useds m_tableSize m_owners m_isReached m_areApart) H := hP
    have hD : va_D A (MW bd cb m_thrown m_states m_timerEvents m_transitions m_froms m_events m_variables m_relations m_numbers m_nexts (upd m_sizes v1.toNatClampNeg ((m_sizes v1.toNatClampNeg) + (1 : Int32))) (upd m_actions s1.toNatClampNeg s2) m_fired m_state m_time m_values m_runs m_dues m_emitted m_output m_ignored (0 : Int32) m_classes m_numbersOf m_offsets m_useds m_tableSize m_owners m_isReached m_areApart) := hD
    refine lv_aload_n hx hb dX4_addAction_217 rfl (lv_at hl 0 rfl) ?_
    refine va_get (D := D) (ci := 4) (v := .ref (bd 8)) (C := RX4) (T := TX4) (N := 30) hx hb hts hiX4 hown hK hP 0 rfl rfl 10 (by decide) f35 (fun _ h9 => h9) rfl dX4_addAction_218 ?_
    refine lv_iload_n hx hb dX4_addAction_221 rfl (lv_at hl 1 rfl) ?_
    refine va_iald hx hb hK hP 8 7 rfl rfl hi208 dX4_addAction_222 ?_
    obtain rfl := Option.some.inj hf
    subst hZ
    exact pw_ri hx hb hr hlocks hK hP hD hS (Nat.le_of_ble_eq_true rfl) (Nat.le_of_ble_eq_true rfl) dX4_addAction_223
  have B121 : ∀ (m_thrown s0 : Int32) (H : Heap) (locs : List Loc) (ls : Array Slot), va_P D vwCl (MW bd cb m_thrown m_states m_timerEvents m_transitions m_froms m_events m_variables m_relations m_numbers m_nexts m_sizes m_actions m_fired m_state m_time m_values m_runs m_dues m_emitted m_output m_ignored m_isCompiled m_classes m_numbersOf m_offsets m_useds m_tableSize m_owners m_isReached m_areApart) H → va_D A (MW bd cb m_thrown m_states m_timerEvents m_transitions m_froms m_events m_variables m_relations m_numbers m_nexts m_sizes m_actions m_fired m_state m_time m_values m_runs m_dues m_emitted m_output m_ignored m_isCompiled m_classes m_numbersOf m_offsets m_useds m_tableSize m_owners m_isReached m_areApart) → va_S A s.heap H locs → lv_has ls 7 [(0, .ref (bd 0)), (1, .int v1), (2, .int v2), (3, .int v3), (4, .int v4)] → X4_addAction_B121 m_sizes m_actions m_isCompiled v1 v2 v3 v4 m_thrown s0 = some o → W p l e rmX4_addAction s m args below meth c H locs 0 0 Z (F0 m 121 ls [.int s0]) := by
    intro m_thrown s0 H locs ls hP hD hS hl hf
    unfold X4_addAction_B121 at hf
    refine lv_istore (lv' := [(5, .int s0), (0, .ref (bd 0)), (1, .int v1), (2, .int v2), (3, .int v3), (4, .int v4)]) hx hb dX4_addAction_121 hl (by decide) rfl (fun ls hl => ?_)
    refine lv_iload hx hb dX4_addAction_123 (lv_at hl 0 rfl) ?_
    refine lv_if_ne (tgt := 134) hx hb dX4_addAction_125 (by decide) (fun hc => ?_) (fun hc => ?_)
    · have hf := pr_f hf hc
      refine lv_aload_n hx hb dX4_addAction_134 rfl (lv_at hl 1 rfl) ?_
      refine va_get (D := D) (ci := 4) (v := .ref (bd 8)) (C := RX4) (T := TX4) (N := 30) hx hb hts hiX4 hown hK hP 0 rfl rfl 10 (by decide) f35 (fun _ h9 => h9) rfl dX4_addAction_135 ?_
      refine lv_iload_n hx hb dX4_addAction_138 rfl (lv_at hl 2 rfl) ?_
      obtain ⟨hi139, hf⟩ := pr_in hf
      refine va_iald hx hb hK hP 8 7 rfl rfl hi139 dX4_addAction_139 ?_
      refine lv_iconst (v := (3 : Int32)) hx hb dX4_addAction_140 (by decide) ?_
      refine lv_icmp_ne (tgt := 150) hx hb dX4_addAction_141 (by decide) (fun hc => ?_) (fun hc => ?_)
      · have hf := pr_f hf hc
        refine lv_iconst (v := (3 : Int32)) hx hb dX4_addAction_150 (by decide) ?_
        refine lv_iconst (v := (3 : Int32)) hx hb dX4_addAction_151 (by decide) ?_
        refine lv_iload_n hx hb dX4_addAction_152 rfl (lv_at hl 2 rfl) ?_
        refine lv_imul hx hb dX4_addAction_153 ?_
        refine lv_aload_n hx hb dX4_addAction_154 rfl (lv_at hl 1 rfl) ?_
        refine va_get (D := D) (ci := 4) (v := .ref (bd 8)) (C := RX4) (T := TX4) (N := 30) hx hb hts hiX4 hown hK hP 0 rfl rfl 10 (by decide) f35 (fun _ h9 => h9) rfl dX4_addAction_155 ?_
        refine lv_iload_n hx hb dX4_addAction_158 rfl (lv_at hl 2 rfl) ?_
        refine va_iald hx hb hK hP 8 7 rfl rfl hi139 dX4_addAction_159 ?_
        refine lv_iadd hx hb dX4_addAction_160 ?_
        refine lv_imul hx hb dX4_addAction_161 ?_
        refine lv_istore (lv' := [(6, .int ((3 : Int32) * (((3 : Int32) * v1) + (m_sizes v1.toNatClampNeg)))), (5, .int s0), (0, .ref (bd 0)), (1, .int v1), (2, .int v2), (3, .int v3), (4, .int v4)]) hx hb dX4_addAction_162 hl (by decide) rfl (fun ls hl => ?_)
        refine lv_aload_n hx hb dX4_addAction_164 rfl (lv_at hl 2 rfl) ?_
        refine va_get (D := D) (ci := 4) (v := .ref (bd 9)) (C := RX4) (T := TX4) (N := 30) hx hb hts hiX4 hown hK hP 0 rfl rfl 11 (by decide) f38 (fun _ h9 => h9) rfl dX4_addAction_165 ?_
        refine lv_iload hx hb dX4_addAction_168 (lv_at hl 0 rfl) ?_
        refine lv_iload_n hx hb dX4_addAction_170 rfl (lv_at hl 4 rfl) ?_
        obtain ⟨hi171, hf⟩ := pr_in hf
        refine va_iast hx hb hK hP hD hS 9 8 rfl rfl hi171 dX4_addAction_171 (fun H locs hP hD hS => ?_)
        have hP : va_P D vwCl (MW bd cb m_thrown m_states m_timerEvents m_transitions m_froms m_events m_variables m_relations m_numbers m_nexts m_sizes (upd m_actions ((3 : Int32) * (((3 : Int32) * v1) + (m_sizes v1.toNatClampNeg))).toNatClampNeg v2) m_fired m_state m_time m_values m_runs m_dues m_emitted m_output m_ignored m_isCompiled m_classes m_numbersOf m_offsets m_useds m_tableSize m_owners m_isReached m_areApart) H := hP
        have hD : va_D A (MW bd cb m_thrown m_states m_timerEvents m_transitions m_froms m_events m_variables m_relations m_numbers m_nexts m_sizes (upd m_actions ((3 : Int32) * (((3 : Int32) * v1) + (m_sizes v1.toNatClampNeg))).toNatClampNeg v2) m_fired m_state m_time m_values m_runs m_dues m_emitted m_output m_ignored m_isCompiled m_classes m_numbersOf m_offsets m_useds m_tableSize m_owners m_isReached m_areApart) := hD
        refine lv_aload_n hx hb dX4_addAction_172 rfl (lv_at hl 2 rfl) ?_
        refine va_get (D := D) (ci := 4) (v := .ref (bd 9)) (C := RX4) (T := TX4) (N := 30) hx hb hts hiX4 hown hK hP 0 rfl rfl 11 (by decide) f38 (fun _ h9 => h9) rfl dX4_addAction_173 ?_
        refine lv_iload hx hb dX4_addAction_176 (lv_at hl 0 rfl) ?_
        refine lv_iconst (v := (1 : Int32)) hx hb dX4_addAction_178 (by decide) ?_
        refine lv_iadd hx hb dX4_addAction_179 ?_
        refine lv_iload_n hx hb dX4_addAction_180 rfl (lv_at hl 5 rfl) ?_
        obtain ⟨hi181, hf⟩ := pr_in hf
        refine va_iast hx hb hK hP hD hS 9 8 rfl rfl hi181 dX4_addAction_181 (fun H locs hP hD hS => ?_)
        have hP : va_P D vwCl (MW bd cb m_thrown m_states m_timerEvents m_transitions m_froms m_events m_variables m_relations m_numbers m_nexts m_sizes (upd (upd m_actions ((3 : Int32) * (((3 : Int32) * v1) + (m_sizes v1.toNatClampNeg))).toNatClampNeg v2) (((3 : Int32) * (((3 : Int32) * v1) + (m_sizes v1.toNatClampNeg))) + (1 : Int32)).toNatClampNeg v3) m_fired m_state m_time m_values m_runs m_dues m_emitted m_output m_ignored m_isCompiled m_classes m_numbersOf m_offsets m_useds m_tableSize m_owners m_isReached m_areApart) H := hP
        have hD : va_D A (MW bd cb m_thrown m_states m_timerEvents m_transitions m_froms m_events m_variables m_relations m_numbers m_nexts m_sizes (upd (upd m_actions ((3 : Int32) * (((3 : Int32) * v1) + (m_sizes v1.toNatClampNeg))).toNatClampNeg v2) (((3 : Int32) * (((3 : Int32) * v1) + (m_sizes v1.toNatClampNeg))) + (1 : Int32)).toNatClampNeg v3) m_fired m_state m_time m_values m_runs m_dues m_emitted m_output m_ignored m_isCompiled m_classes m_numbersOf m_offsets m_useds m_tableSize m_owners m_isReached m_areApart) := hD
        refine lv_aload_n hx hb dX4_addAction_182 rfl (lv_at hl 2 rfl) ?_
        refine va_get (D := D) (ci := 4) (v := .ref (bd 9)) (C := RX4) (T := TX4) (N := 30) hx hb hts hiX4 hown hK hP 0 rfl rfl 11 (by decide) f38 (fun _ h9 => h9) rfl dX4_addAction_183 ?_
        refine lv_iload hx hb dX4_addAction_186 (lv_at hl 0 rfl) ?_
        refine lv_iconst (v := (2 : Int32)) hx hb dX4_addAction_188 (by decide) ?_
        refine lv_iadd hx hb dX4_addAction_189 ?_
        refine lv_iload_n hx hb dX4_addAction_190 rfl (lv_at hl 4 rfl) ?_
        refine lv_iconst (v := (2 : Int32)) hx hb dX4_addAction_191 (by decide) ?_
        refine lv_icmp_gt (tgt := 200) hx hb dX4_addAction_192 (by decide) (fun hc => ?_) (fun hc => ?_)
        · have hf := pr_t hf hc
          refine lv_iconst (v := (0 : Int32)) hx hb dX4_addAction_200 (by decide) ?_
          exact B201 m_thrown (upd (upd m_actions ((3 : Int32) * (((3 : Int32) * v1) + (m_sizes v1.toNatClampNeg))).toNatClampNeg v2) (((3 : Int32) * (((3 : Int32) * v1) + (m_sizes v1.toNatClampNeg))) + (1 : Int32)).toNatClampNeg v3) (((3 : Int32) * (((3 : Int32) * v1) + (m_sizes v1.toNatClampNeg))) + (2 : Int32)) (0 : Int32) H locs ls hP hD hS (lv_sub hl [2, 3] rfl) hf
        · have hf := pr_f hf hc
          refine lv_iload hx hb dX4_addAction_195 (lv_at hl 6 rfl) ?_
          refine lv_goto (tgt := 201) hx hb dX4_addAction_197 (by decide) ?_
          exact B201 m_thrown (upd (upd m_actions ((3 : Int32) * (((3 : Int32) * v1) + (m_sizes v1.toNatClampNeg))).toNatClampNeg v2) (((3 : Int32) * (((3 : Int32) * v1) + (m_sizes v1.toNatClampNeg))) + (1 : Int32)).toNatClampNeg v3) (((3 : Int32) * (((3 : Int32) * v1) + (m_sizes v1.toNatClampNeg))) + (2 : Int32)) v4 H locs ls hP hD hS (lv_sub hl [2, 3] rfl) hf
      · have hf := pr_t hf hc
        refine lv_aload_n hx hb dX4_addAction_144 rfl (lv_at hl 1 rfl) ?_
        refine lv_iconst (v := (3 : Int32)) hx hb dX4_addAction_145 (by decide) ?_
        obtain ⟨x146, hg146, hf⟩ := pr_b hf
        refine pw_cViW (b := bd 0) (As := [.int (3 : Int32)]) (rest := []) ⟨hx, hb, hml, hown, hts⟩ (c_X4_fail (D := D) m_thrown m_states m_timerEvents m_transitions m_froms m_events m_variables m_relations m_numbers m_nexts m_sizes m_actions m_fired m_state m_time m_values m_runs m_dues m_emitted m_output m_ignored m_isCompiled m_classes m_numbersOf m_offsets m_useds m_tableSize m_owners m_isReached m_areApart (3 : Int32) hg146) (cwV 1 hts gX4_addAction_X4_fail rfl rfl rfl (by decide +kernel) ⟨Nat.le_of_ble_eq_true rfl, Nat.le_of_ble_eq_true rfl⟩) 0 4 rfl rfl hK hP hD hS hA rfl hl.1 rfl (Nat.le_of_ble_eq_true rfl) dX4_addAction_146 ⟨Nat.le_of_ble_eq_true rfl, Nat.le_of_ble_eq_true rfl⟩ (fun H locs hP hD hS => ?_)
        have hP : va_P D vwCl (MW bd cb x146.2 m_states m_timerEvents m_transitions m_froms m_events m_variables m_relations m_numbers m_nexts m_sizes m_actions m_fired m_state m_time m_values m_runs m_dues m_emitted m_output m_ignored m_isCompiled m_classes m_numbersOf m_offsets m_useds m_tableSize m_owners m_isReached m_areApart) H := hP
        have hD : va_D A (MW bd cb x146.2 m_states m_timerEvents m_transitions m_froms m_events m_variables m_relations m_numbers m_nexts m_sizes m_actions m_fired m_state m_time m_values m_runs m_dues m_emitted m_output m_ignored m_isCompiled m_classes m_numbersOf m_offsets m_useds m_tableSize m_owners m_isReached m_areApart) := hD
        obtain rfl := Option.some.inj hf
        subst hZ
        exact pw_ri hx hb hr hlocks hK hP hD hS (Nat.le_of_ble_eq_true rfl) (Nat.le_of_ble_eq_true rfl) dX4_addAction_149
    · have hf := pr_t hf hc
      refine lv_aload_n hx hb dX4_addAction_128 rfl (lv_at hl 1 rfl) ?_
      refine lv_iconst (v := (2 : Int32)) hx hb dX4_addAction_129 (by decide) ?_
      obtain ⟨x130, hg130, hf⟩ := pr_b hf
      refine pw_cViW (b := bd 0) (As := [.int (2 : Int32)]) (rest := []) ⟨hx, hb, hml, hown, hts⟩ (c_X4_fail (D := D) m_thrown m_states m_timerEvents m_transitions m_froms m_events m_variables m_relations m_numbers m_nexts m_sizes m_actions m_fired m_state m_time m_values m_runs m_dues m_emitted m_output m_ignored m_isCompiled m_classes m_numbersOf m_offsets m_useds m_tableSize m_owners m_isReached m_areApart (2 : Int32) hg130) (cwV 1 hts gX4_addAction_X4_fail rfl rfl rfl (by decide +kernel) ⟨Nat.le_of_ble_eq_true rfl, Nat.le_of_ble_eq_true rfl⟩) 0 4 rfl rfl hK hP hD hS hA rfl hl.1 rfl (Nat.le_of_ble_eq_true rfl) dX4_addAction_130 ⟨Nat.le_of_ble_eq_true rfl, Nat.le_of_ble_eq_true rfl⟩ (fun H locs hP hD hS => ?_)
      have hP : va_P D vwCl (MW bd cb x130.2 m_states m_timerEvents m_transitions m_froms m_events m_variables m_relations m_numbers m_nexts m_sizes m_actions m_fired m_state m_time m_values m_runs m_dues m_emitted m_output m_ignored m_isCompiled m_classes m_numbersOf m_offsets m_useds m_tableSize m_owners m_isReached m_areApart) H := hP
      have hD : va_D A (MW bd cb x130.2 m_states m_timerEvents m_transitions m_froms m_events m_variables m_relations m_numbers m_nexts m_sizes m_actions m_fired m_state m_time m_values m_runs m_dues m_emitted m_output m_ignored m_isCompiled m_classes m_numbersOf m_offsets m_useds m_tableSize m_owners m_isReached m_areApart) := hD
      obtain rfl := Option.some.inj hf
      subst hZ
      exact pw_ri hx hb hr hlocks hK hP hD hS (Nat.le_of_ble_eq_true rfl) (Nat.le_of_ble_eq_true rfl) dX4_addAction_133
  have B120 : ∀ (m_thrown : Int32) (H : Heap) (locs : List Loc) (ls : Array Slot), va_P D vwCl (MW bd cb m_thrown m_states m_timerEvents m_transitions m_froms m_events m_variables m_relations m_numbers m_nexts m_sizes m_actions m_fired m_state m_time m_values m_runs m_dues m_emitted m_output m_ignored m_isCompiled m_classes m_numbersOf m_offsets m_useds m_tableSize m_owners m_isReached m_areApart) H → va_D A (MW bd cb m_thrown m_states m_timerEvents m_transitions m_froms m_events m_variables m_relations m_numbers m_nexts m_sizes m_actions m_fired m_state m_time m_values m_runs m_dues m_emitted m_output m_ignored m_isCompiled m_classes m_numbersOf m_offsets m_useds m_tableSize m_owners m_isReached m_areApart) → va_S A s.heap H locs → lv_has ls 7 [(0, .ref (bd 0)), (1, .int v1), (2, .int v2), (3, .int v3), (4, .int v4)] → X4_addAction_B120 m_sizes m_actions m_isCompiled v1 v2 v3 v4 m_thrown = some o → W p l e rmX4_addAction s m args below meth c H locs 0 0 Z (F0 m 120 ls []) := by
    intro m_thrown H locs ls hP hD hS hl hf
    unfold X4_addAction_B120 at hf
    refine lv_iconst (v := (0 : Int32)) hx hb dX4_addAction_120 (by decide) ?_
    exact B121 m_thrown (0 : Int32) H locs ls hP hD hS (lv_sub hl [0, 1, 2, 3, 4] rfl) hf
  have B28 : ∀ (m_thrown : Int32) (H : Heap) (locs : List Loc) (ls : Array Slot), va_P D vwCl (MW bd cb m_thrown m_states m_timerEvents m_transitions m_froms m_events m_variables m_relations m_numbers m_nexts m_sizes m_actions m_fired m_state m_time m_values m_runs m_dues m_emitted m_output m_ignored m_isCompiled m_classes m_numbersOf m_offsets m_useds m_tableSize m_owners m_isReached m_areApart) H → va_D A (MW bd cb m_thrown m_states m_timerEvents m_transitions m_froms m_events m_variables m_relations m_numbers m_nexts m_sizes m_actions m_fired m_state m_time m_values m_runs m_dues m_emitted m_output m_ignored m_isCompiled m_classes m_numbersOf m_offsets m_useds m_tableSize m_owners m_isReached m_areApart) → va_S A s.heap H locs → lv_has ls 7 [(0, .ref (bd 0)), (1, .int v1), (2, .int v2), (3, .int v3), (4, .int v4)] → X4_addAction_B28 m_sizes m_actions m_isCompiled v1 v2 v3 v4 m_thrown = some o → W p l e rmX4_addAction s m args below meth c H locs 0 0 Z (F0 m 28 ls []) := by
    intro m_thrown H locs ls hP hD hS hl hf
    unfold X4_addAction_B28 at hf
    refine lv_iload_n hx hb dX4_addAction_28 rfl (lv_at hl 3 rfl) ?_
    refine lv_iconst (v := (0 : Int32)) hx hb dX4_addAction_29 (by decide) ?_
    refine lv_iconst (v := (2 : Int32)) hx hb dX4_addAction_30 (by decide) ?_
    obtain ⟨x31, hg31, hf⟩ := pr_b hf
    refine pw_cSiE (As := [.int v3, .int (0 : Int32), .int (2 : Int32)]) (rest := []) ⟨hx, hb, hml, hown, hts⟩ (c_X4_isIn (D := D) (tys := (MT cb)) v3 (0 : Int32) (2 : Int32) hg31) (va_cwS 3 hts gX4_addAction_X4_isIn rfl rfl rfl (by decide +kernel) ⟨Nat.le_of_ble_eq_true rfl, Nat.le_of_ble_eq_true rfl⟩) hK hP hD hS hA rfl hl.1 rfl (Nat.le_of_ble_eq_true rfl) dX4_addAction_31 ⟨Nat.le_of_ble_eq_true rfl, Nat.le_of_ble_eq_true rfl⟩ (fun H locs hP hD hS => ?_)
    refine lv_if_eq (tgt := 49) hx hb dX4_addAction_34 (by decide) (fun hc => ?_) (fun hc => ?_)
    · have hf := pr_t hf hc
      refine lv_iconst (v := (0 : Int32)) hx hb dX4_addAction_49 (by decide) ?_
      refine lv_goto (tgt := 121) hx hb dX4_addAction_50 (by decide) ?_
      exact B121 m_thrown (0 : Int32) H locs ls hP hD hS (lv_sub hl [0, 1, 2, 3, 4] rfl) hf
    · have hf := pr_f hf hc
      refine lv_iload hx hb dX4_addAction_37 (lv_at hl 4 rfl) ?_
      obtain ⟨x39, hg39, hf⟩ := pr_b hf
      refine pw_cSiE (As := [.int v4]) (rest := []) ⟨hx, hb, hml, hown, hts⟩ (c_X4_isNumber (D := D) (tys := (MT cb)) v4 hg39) (va_cwS 1 hts gX4_addAction_X4_isNumber rfl rfl rfl (by decide +kernel) ⟨Nat.le_of_ble_eq_true rfl, Nat.le_of_ble_eq_true rfl⟩) hK hP hD hS hA rfl hl.1 rfl (Nat.le_of_ble_eq_true rfl) dX4_addAction_39 ⟨Nat.le_of_ble_eq_true rfl, Nat.le_of_ble_eq_true rfl⟩ (fun H locs hP hD hS => ?_)
      refine lv_if_eq (tgt := 49) hx hb dX4_addAction_42 (by decide) (fun hc => ?_) (fun hc => ?_)
      · have hf := pr_t hf hc
        refine lv_iconst (v := (0 : Int32)) hx hb dX4_addAction_49 (by decide) ?_
        refine lv_goto (tgt := 121) hx hb dX4_addAction_50 (by decide) ?_
        exact B121 m_thrown (0 : Int32) H locs ls hP hD hS (lv_sub hl [0, 1, 2, 3, 4] rfl) hf
      · have hf := pr_f hf hc
        refine lv_iconst (v := (1 : Int32)) hx hb dX4_addAction_45 (by decide) ?_
        refine lv_goto (tgt := 121) hx hb dX4_addAction_46 (by decide) ?_
        exact B121 m_thrown (1 : Int32) H locs ls hP hD hS (lv_sub hl [0, 1, 2, 3, 4] rfl) hf
  unfold X4_addAction at hf
  refine lv_aload_n hx hb dX4_addAction_0 rfl (lv_at hl 0 rfl) ?_
  refine lv_iconst (v := (0 : Int32)) hx hb dX4_addAction_1 (by decide) ?_
  refine va_put (D := D) (ci := 4) (v := .int (0 : Int32)) (ty := .int) (C := RX4) (T := TX4) (N := 30) hx hb hts hiX4 tyX4 tyX4_ok nmX4 hown hK hP hD hS 0 rfl rfl 0 (by decide) f76 (fun _ h9 => h9) rfl (by decide +kernel) rfl rfl (Nat.le_of_ble_eq_true rfl) dX4_addAction_2 (fun H locs hP hD hS => ?_)
  have hP : va_P D vwCl (MW bd cb (0 : Int32) m_states m_timerEvents m_transitions m_froms m_events m_variables m_relations m_numbers m_nexts m_sizes m_actions m_fired m_state m_time m_values m_runs m_dues m_emitted m_output m_ignored m_isCompiled m_classes m_numbersOf m_offsets m_useds m_tableSize m_owners m_isReached m_areApart) H := hP
  have hD : va_D A (MW bd cb (0 : Int32) m_states m_timerEvents m_transitions m_froms m_events m_variables m_relations m_numbers m_nexts m_sizes m_actions m_fired m_state m_time m_values m_runs m_dues m_emitted m_output m_ignored m_isCompiled m_classes m_numbersOf m_offsets m_useds m_tableSize m_owners m_isReached m_areApart) := hD
  refine lv_aload_n hx hb dX4_addAction_5 rfl (lv_at hl 0 rfl) ?_
  refine lv_iload_n hx hb dX4_addAction_6 rfl (lv_at hl 1 rfl) ?_
  obtain ⟨x7, hg7, hf⟩ := pr_b hf
  refine pw_cViW (b := bd 0) (As := [.int v1]) (rest := []) ⟨hx, hb, hml, hown, hts⟩ (c_X4_isTransition (D := D) (0 : Int32) m_states m_timerEvents m_transitions m_froms m_events m_variables m_relations m_numbers m_nexts m_sizes m_actions m_fired m_state m_time m_values m_runs m_dues m_emitted m_output m_ignored m_isCompiled m_classes m_numbersOf m_offsets m_useds m_tableSize m_owners m_isReached m_areApart v1 hg7) (cwV 1 hts gX4_addAction_X4_isTransition rfl rfl rfl (by decide +kernel) ⟨Nat.le_of_ble_eq_true rfl, Nat.le_of_ble_eq_true rfl⟩) 0 4 rfl rfl hK hP hD hS hA rfl hl.1 rfl (Nat.le_of_ble_eq_true rfl) dX4_addAction_7 ⟨Nat.le_of_ble_eq_true rfl, Nat.le_of_ble_eq_true rfl⟩ (fun H locs hP hD hS => ?_)
  refine lv_if_ne (tgt := 19) hx hb dX4_addAction_10 (by decide) (fun hc => ?_) (fun hc => ?_)
  · have hf := pr_f hf hc
    refine lv_iload_n hx hb dX4_addAction_19 rfl (lv_at hl 2 rfl) ?_
    refine lv_if_eq (tgt := 28) hx hb dX4_addAction_20 (by decide) (fun hc => ?_) (fun hc => ?_)
    · have hf := pr_t hf hc
      exact B28 (0 : Int32) H locs ls hP hD hS (lv_sub hl [0, 1, 2, 3, 4] rfl) hf
    · have hf := pr_f hf hc
      refine lv_iload_n hx hb dX4_addAction_23 rfl (lv_at hl 2 rfl) ?_
      refine lv_iconst (v := (1 : Int32)) hx hb dX4_addAction_24 (by decide) ?_
      refine lv_icmp_ne (tgt := 53) hx hb dX4_addAction_25 (by decide) (fun hc => ?_) (fun hc => ?_)
      · have hf := pr_f hf hc
        refine lv_iload_n hx hb dX4_addAction_53 rfl (lv_at hl 2 rfl) ?_
        refine lv_iconst (v := (2 : Int32)) hx hb dX4_addAction_54 (by decide) ?_
        refine lv_icmp_ne (tgt := 87) hx hb dX4_addAction_55 (by decide) (fun hc => ?_) (fun hc => ?_)
        · have hf := pr_f hf hc
          refine lv_iload_n hx hb dX4_addAction_87 rfl (lv_at hl 2 rfl) ?_
          refine lv_iconst (v := (3 : Int32)) hx hb dX4_addAction_88 (by decide) ?_
          refine lv_icmp_ne (tgt := 101) hx hb dX4_addAction_89 (by decide) (fun hc => ?_) (fun hc => ?_)
          · have hf := pr_f hf hc
            refine lv_iload_n hx hb dX4_addAction_101 rfl (lv_at hl 2 rfl) ?_
            refine lv_iconst (v := (4 : Int32)) hx hb dX4_addAction_102 (by decide) ?_
            refine lv_icmp_ne (tgt := 120) hx hb dX4_addAction_103 (by decide) (fun hc => ?_) (fun hc => ?_)
            · have hf := pr_f hf hc
              exact B120 (0 : Int32) H locs ls hP hD hS (lv_sub hl [0, 1, 2, 3, 4] rfl) hf
            · have hf := pr_t hf hc
              refine lv_iload_n hx hb dX4_addAction_106 rfl (lv_at hl 3 rfl) ?_
              refine lv_iconst (v := (0 : Int32)) hx hb dX4_addAction_107 (by decide) ?_
              refine lv_bipush (v := (99 : Int32)) hx hb dX4_addAction_108 (by decide) ?_
              obtain ⟨x110, hg110, hf⟩ := pr_b hf
              refine pw_cSiE (As := [.int v3, .int (0 : Int32), .int (99 : Int32)]) (rest := []) ⟨hx, hb, hml, hown, hts⟩ (c_X4_isIn (D := D) (tys := (MT cb)) v3 (0 : Int32) (99 : Int32) hg110) (va_cwS 3 hts gX4_addAction_X4_isIn rfl rfl rfl (by decide +kernel) ⟨Nat.le_of_ble_eq_true rfl, Nat.le_of_ble_eq_true rfl⟩) hK hP hD hS hA rfl hl.1 rfl (Nat.le_of_ble_eq_true rfl) dX4_addAction_110 ⟨Nat.le_of_ble_eq_true rfl, Nat.le_of_ble_eq_true rfl⟩ (fun H locs hP hD hS => ?_)
              refine lv_if_eq (tgt := 120) hx hb dX4_addAction_113 (by decide) (fun hc => ?_) (fun hc => ?_)
              · have hf := pr_t hf hc
                exact B120 (0 : Int32) H locs ls hP hD hS (lv_sub hl [0, 1, 2, 3, 4] rfl) hf
              · have hf := pr_f hf hc
                refine lv_iconst (v := (1 : Int32)) hx hb dX4_addAction_116 (by decide) ?_
                refine lv_goto (tgt := 121) hx hb dX4_addAction_117 (by decide) ?_
                exact B121 (0 : Int32) (1 : Int32) H locs ls hP hD hS (lv_sub hl [0, 1, 2, 3, 4] rfl) hf
          · have hf := pr_t hf hc
            refine lv_iload_n hx hb dX4_addAction_92 rfl (lv_at hl 3 rfl) ?_
            refine lv_iconst (v := (0 : Int32)) hx hb dX4_addAction_93 (by decide) ?_
            refine lv_iconst (v := (3 : Int32)) hx hb dX4_addAction_94 (by decide) ?_
            obtain ⟨x95, hg95, hf⟩ := pr_b hf
            refine pw_cSiE (As := [.int v3, .int (0 : Int32), .int (3 : Int32)]) (rest := []) ⟨hx, hb, hml, hown, hts⟩ (c_X4_isIn (D := D) (tys := (MT cb)) v3 (0 : Int32) (3 : Int32) hg95) (va_cwS 3 hts gX4_addAction_X4_isIn rfl rfl rfl (by decide +kernel) ⟨Nat.le_of_ble_eq_true rfl, Nat.le_of_ble_eq_true rfl⟩) hK hP hD hS hA rfl hl.1 rfl (Nat.le_of_ble_eq_true rfl) dX4_addAction_95 ⟨Nat.le_of_ble_eq_true rfl, Nat.le_of_ble_eq_true rfl⟩ (fun H locs hP hD hS => ?_)
            refine lv_goto (tgt := 121) hx hb dX4_addAction_98 (by decide) ?_
            exact B121 (0 : Int32) x95 H locs ls hP hD hS (lv_sub hl [0, 1, 2, 3, 4] rfl) hf
        · have hf := pr_t hf hc
          refine lv_iload_n hx hb dX4_addAction_58 rfl (lv_at hl 3 rfl) ?_
          refine lv_iconst (v := (0 : Int32)) hx hb dX4_addAction_59 (by decide) ?_
          refine lv_iconst (v := (3 : Int32)) hx hb dX4_addAction_60 (by decide) ?_
          obtain ⟨x61, hg61, hf⟩ := pr_b hf
          refine pw_cSiE (As := [.int v3, .int (0 : Int32), .int (3 : Int32)]) (rest := []) ⟨hx, hb, hml, hown, hts⟩ (c_X4_isIn (D := D) (tys := (MT cb)) v3 (0 : Int32) (3 : Int32) hg61) (va_cwS 3 hts gX4_addAction_X4_isIn rfl rfl rfl (by decide +kernel) ⟨Nat.le_of_ble_eq_true rfl, Nat.le_of_ble_eq_true rfl⟩) hK hP hD hS hA rfl hl.1 rfl (Nat.le_of_ble_eq_true rfl) dX4_addAction_61 ⟨Nat.le_of_ble_eq_true rfl, Nat.le_of_ble_eq_true rfl⟩ (fun H locs hP hD hS => ?_)
          refine lv_if_eq (tgt := 83) hx hb dX4_addAction_64 (by decide) (fun hc => ?_) (fun hc => ?_)
          · have hf := pr_t hf hc
            refine lv_iconst (v := (0 : Int32)) hx hb dX4_addAction_83 (by decide) ?_
            refine lv_goto (tgt := 121) hx hb dX4_addAction_84 (by decide) ?_
            exact B121 (0 : Int32) (0 : Int32) H locs ls hP hD hS (lv_sub hl [0, 1, 2, 3, 4] rfl) hf
          · have hf := pr_f hf hc
            refine lv_iload hx hb dX4_addAction_67 (lv_at hl 4 rfl) ?_
            refine lv_iconst (v := (1 : Int32)) hx hb dX4_addAction_69 (by decide) ?_
            refine lv_sipush (v := (1000 : Int32)) hx hb dX4_addAction_70 (by decide) ?_
            obtain ⟨x73, hg73, hf⟩ := pr_b hf
            refine pw_cSiE (As := [.int v4, .int (1 : Int32), .int (1000 : Int32)]) (rest := []) ⟨hx, hb, hml, hown, hts⟩ (c_X4_isIn (D := D) (tys := (MT cb)) v4 (1 : Int32) (1000 : Int32) hg73) (va_cwS 3 hts gX4_addAction_X4_isIn rfl rfl rfl (by decide +kernel) ⟨Nat.le_of_ble_eq_true rfl, Nat.le_of_ble_eq_true rfl⟩) hK hP hD hS hA rfl hl.1 rfl (Nat.le_of_ble_eq_true rfl) dX4_addAction_73 ⟨Nat.le_of_ble_eq_true rfl, Nat.le_of_ble_eq_true rfl⟩ (fun H locs hP hD hS => ?_)
            refine lv_if_eq (tgt := 83) hx hb dX4_addAction_76 (by decide) (fun hc => ?_) (fun hc => ?_)
            · have hf := pr_t hf hc
              refine lv_iconst (v := (0 : Int32)) hx hb dX4_addAction_83 (by decide) ?_
              refine lv_goto (tgt := 121) hx hb dX4_addAction_84 (by decide) ?_
              exact B121 (0 : Int32) (0 : Int32) H locs ls hP hD hS (lv_sub hl [0, 1, 2, 3, 4] rfl) hf
            · have hf := pr_f hf hc
              refine lv_iconst (v := (1 : Int32)) hx hb dX4_addAction_79 (by decide) ?_
              refine lv_goto (tgt := 121) hx hb dX4_addAction_80 (by decide) ?_
              exact B121 (0 : Int32) (1 : Int32) H locs ls hP hD hS (lv_sub hl [0, 1, 2, 3, 4] rfl) hf
      · have hf := pr_t hf hc
        exact B28 (0 : Int32) H locs ls hP hD hS (lv_sub hl [0, 1, 2, 3, 4] rfl) hf
  · have hf := pr_t hf hc
    refine lv_aload_n hx hb dX4_addAction_13 rfl (lv_at hl 0 rfl) ?_
    refine lv_iconst (v := (1 : Int32)) hx hb dX4_addAction_14 (by decide) ?_
    obtain ⟨x15, hg15, hf⟩ := pr_b hf
    refine pw_cViW (b := bd 0) (As := [.int (1 : Int32)]) (rest := []) ⟨hx, hb, hml, hown, hts⟩ (c_X4_fail (D := D) (0 : Int32) m_states m_timerEvents m_transitions m_froms m_events m_variables m_relations m_numbers m_nexts m_sizes m_actions m_fired m_state m_time m_values m_runs m_dues m_emitted m_output m_ignored m_isCompiled m_classes m_numbersOf m_offsets m_useds m_tableSize m_owners m_isReached m_areApart (1 : Int32) hg15) (cwV 1 hts gX4_addAction_X4_fail rfl rfl rfl (by decide +kernel) ⟨Nat.le_of_ble_eq_true rfl, Nat.le_of_ble_eq_true rfl⟩) 0 4 rfl rfl hK hP hD hS hA rfl hl.1 rfl (Nat.le_of_ble_eq_true rfl) dX4_addAction_15 ⟨Nat.le_of_ble_eq_true rfl, Nat.le_of_ble_eq_true rfl⟩ (fun H locs hP hD hS => ?_)
    have hP : va_P D vwCl (MW bd cb x15.2 m_states m_timerEvents m_transitions m_froms m_events m_variables m_relations m_numbers m_nexts m_sizes m_actions m_fired m_state m_time m_values m_runs m_dues m_emitted m_output m_ignored m_isCompiled m_classes m_numbersOf m_offsets m_useds m_tableSize m_owners m_isReached m_areApart) H := hP
    have hD : va_D A (MW bd cb x15.2 m_states m_timerEvents m_transitions m_froms m_events m_variables m_relations m_numbers m_nexts m_sizes m_actions m_fired m_state m_time m_values m_runs m_dues m_emitted m_output m_ignored m_isCompiled m_classes m_numbersOf m_offsets m_useds m_tableSize m_owners m_isReached m_areApart) := hD
    obtain rfl := Option.some.inj hf
    subst hZ
    exact pw_ri hx hb hr hlocks hK hP hD hS (Nat.le_of_ble_eq_true rfl) (Nat.le_of_ble_eq_true rfl) dX4_addAction_18
abbrev rmX4_drop : Room := { frames := 1, cells := 0, slots := 0, locals := 21 }
set_option maxHeartbeats 4000000 in
set_option maxRecDepth 100000 in
theorem c_X4_drop {l : Launch} {D : va_G} {bd : Nat → Nat} {cb : Nat → ClassId} (m_thrown m_states : Int32) (m_timerEvents : Nat → Int32) (m_transitions : Int32) (m_froms m_events m_variables m_relations m_numbers m_nexts m_sizes m_actions m_fired : Nat → Int32) (m_state : Int32) (m_time : Int64) (m_values m_runs : Nat → Int32) (m_dues : Nat → Int64) (m_emitted : Int32) (m_output : Nat → Int32) (m_ignored m_isCompiled m_classes : Int32) (m_numbersOf m_offsets m_useds : Nat → Int32) (m_tableSize : Int32) (m_owners m_isReached m_areApart : Nat → Int32) {o : Int32 × Int32 × Int32 × Int32} (hf : X4_drop m_thrown m_transitions m_isCompiled = some o) : Ci l yX4_drop wsX4_drop rmX4_drop D (MT cb) (MW bd cb m_thrown m_states m_timerEvents m_transitions m_froms m_events m_variables m_relations m_numbers m_nexts m_sizes m_actions m_fired m_state m_time m_values m_runs m_dues m_emitted m_output m_ignored m_isCompiled m_classes m_numbersOf m_offsets m_useds m_tableSize m_owners m_isReached m_areApart) [.ref (bd 0)] o.1 (MW bd cb o.2.1 m_states m_timerEvents o.2.2.1 m_froms m_events m_variables m_relations m_numbers m_nexts m_sizes m_actions m_fired m_state m_time m_values m_runs m_dues m_emitted m_output m_ignored o.2.2.2 m_classes m_numbersOf m_offsets m_useds m_tableSize m_owners m_isReached m_areApart) := by
  intro sz
  refine pw_entry (Qc := fun A => pw_Qi D (MT cb) (MW bd cb o.2.1 m_states m_timerEvents o.2.2.1 m_froms m_events m_variables m_relations m_numbers m_nexts m_sizes m_actions m_fired m_state m_time m_values m_runs m_dues m_emitted m_output m_ignored o.2.2.2 m_classes m_numbersOf m_offsets m_useds m_tableSize m_owners m_isReached m_areApart) A o.1) (cc := cX4_drop) (maxL := 1) (ret := (some .int)) (by decide) rfl (Nat.le_of_ble_eq_true rfl) ?_ sz
  intro p e s m args below meth c A ls Z H locs hx hb hr hlocks hts hown hml hnm hK hP hD hS hA hl hZ
  have hown : s.vm.findClass RX4 = some m.cls := hown
  have hiX4 : ∀ w ∈ u_ws RX4 TX4 30, w ∈ wsX4_drop := by decide +kernel
  have f76 := hts (.fieldLink RX4 76 "ProtocolMachineModel" "thrown" "I") (by decide +kernel)
  have f83 := hts (.fieldLink RX4 83 "ProtocolMachineModel" "transitions" "I") (by decide +kernel)
  have f90 := hts (.fieldLink RX4 90 "ProtocolMachineModel" "isCompiled" "Z") (by decide +kernel)
  have hl : lv_has ls 1 [(0, .ref (bd 0))] := hl
  unfold X4_drop at hf
  refine lv_aload_n hx hb dX4_drop_0 rfl (lv_at hl 0 rfl) ?_
  refine lv_iconst (v := (0 : Int32)) hx hb dX4_drop_1 (by decide) ?_
  refine va_put (D := D) (ci := 4) (v := .int (0 : Int32)) (ty := .int) (C := RX4) (T := TX4) (N := 30) hx hb hts hiX4 tyX4 tyX4_ok nmX4 hown hK hP hD hS 0 rfl rfl 0 (by decide) f76 (fun _ h9 => h9) rfl (by decide +kernel) rfl rfl (Nat.le_of_ble_eq_true rfl) dX4_drop_2 (fun H locs hP hD hS => ?_)
  have hP : va_P D vwCl (MW bd cb (0 : Int32) m_states m_timerEvents m_transitions m_froms m_events m_variables m_relations m_numbers m_nexts m_sizes m_actions m_fired m_state m_time m_values m_runs m_dues m_emitted m_output m_ignored m_isCompiled m_classes m_numbersOf m_offsets m_useds m_tableSize m_owners m_isReached m_areApart) H := hP
  have hD : va_D A (MW bd cb (0 : Int32) m_states m_timerEvents m_transitions m_froms m_events m_variables m_relations m_numbers m_nexts m_sizes m_actions m_fired m_state m_time m_values m_runs m_dues m_emitted m_output m_ignored m_isCompiled m_classes m_numbersOf m_offsets m_useds m_tableSize m_owners m_isReached m_areApart) := hD
  refine lv_aload_n hx hb dX4_drop_5 rfl (lv_at hl 0 rfl) ?_
  refine va_get (D := D) (ci := 4) (v := .int m_transitions) (C := RX4) (T := TX4) (N := 30) hx hb hts hiX4 hown hK hP 0 rfl rfl 3 (by decide) f83 (fun _ h9 => h9) rfl dX4_drop_6 ?_
  refine lv_if_ne (tgt := 18) hx hb dX4_drop_9 (by decide) (fun hc => ?_) (fun hc => ?_)
  · have hf := pr_f hf hc
    refine lv_aload_n hx hb dX4_drop_18 rfl (lv_at hl 0 rfl) ?_
    refine lv_dup hx hb dX4_drop_19 rfl ?_
    refine va_get (D := D) (ci := 4) (v := .int m_transitions) (C := RX4) (T := TX4) (N := 30) hx hb hts hiX4 hown hK hP 0 rfl rfl 3 (by decide) f83 (fun _ h9 => h9) rfl dX4_drop_20 ?_
    refine lv_iconst (v := (1 : Int32)) hx hb dX4_drop_23 (by decide) ?_
    refine lv_isub hx hb dX4_drop_24 ?_
    refine va_put (D := D) (ci := 4) (v := .int (m_transitions - (1 : Int32))) (ty := .int) (C := RX4) (T := TX4) (N := 30) hx hb hts hiX4 tyX4 tyX4_ok nmX4 hown hK hP hD hS 0 rfl rfl 3 (by decide) f83 (fun _ h9 => h9) rfl (by decide +kernel) rfl rfl (Nat.le_of_ble_eq_true rfl) dX4_drop_25 (fun H locs hP hD hS => ?_)
    have hP : va_P D vwCl (MW bd cb (0 : Int32) m_states m_timerEvents (m_transitions - (1 : Int32)) m_froms m_events m_variables m_relations m_numbers m_nexts m_sizes m_actions m_fired m_state m_time m_values m_runs m_dues m_emitted m_output m_ignored m_isCompiled m_classes m_numbersOf m_offsets m_useds m_tableSize m_owners m_isReached m_areApart) H := hP
    have hD : va_D A (MW bd cb (0 : Int32) m_states m_timerEvents (m_transitions - (1 : Int32)) m_froms m_events m_variables m_relations m_numbers m_nexts m_sizes m_actions m_fired m_state m_time m_values m_runs m_dues m_emitted m_output m_ignored m_isCompiled m_classes m_numbersOf m_offsets m_useds m_tableSize m_owners m_isReached m_areApart) := hD
    refine lv_aload_n hx hb dX4_drop_28 rfl (lv_at hl 0 rfl) ?_
    refine lv_iconst (v := (0 : Int32)) hx hb dX4_drop_29 (by decide) ?_
    refine va_put (D := D) (ci := 4) (v := .int (0 : Int32)) (ty := .boolean) (C := RX4) (T := TX4) (N := 30) hx hb hts hiX4 tyX4 tyX4_ok nmX4 hown hK hP hD hS 0 rfl rfl 21 (by decide) f90 (fun _ h9 => h9) rfl (by decide +kernel) rfl rfl (Nat.le_of_ble_eq_true rfl) dX4_drop_30 (fun H locs hP hD hS => ?_)
    have hP : va_P D vwCl (MW bd cb (0 : Int32) m_states m_timerEvents (m_transitions - (1 : Int32)) m_froms m_events m_variables m_relations m_numbers m_nexts m_sizes m_actions m_fired m_state m_time m_values m_runs m_dues m_emitted m_output m_ignored (0 : Int32) m_classes m_numbersOf m_offsets m_useds m_tableSize m_owners m_isReached m_areApart) H := hP
    have hD : va_D A (MW bd cb (0 : Int32) m_states m_timerEvents (m_transitions - (1 : Int32)) m_froms m_events m_variables m_relations m_numbers m_nexts m_sizes m_actions m_fired m_state m_time m_values m_runs m_dues m_emitted m_output m_ignored (0 : Int32) m_classes m_numbersOf m_offsets m_useds m_tableSize m_owners m_isReached m_areApart) := hD
    refine lv_aload_n hx hb dX4_drop_33 rfl (lv_at hl 0 rfl) ?_
    refine va_get (D := D) (ci := 4) (v := .int (m_transitions - (1 : Int32))) (C := RX4) (T := TX4) (N := 30) hx hb hts hiX4 hown hK hP 0 rfl rfl 3 (by decide) f83 (fun _ h9 => h9) rfl dX4_drop_34 ?_
    obtain rfl := Option.some.inj hf
    subst hZ
    exact pw_ri hx hb hr hlocks hK hP hD hS (Nat.le_of_ble_eq_true rfl) (Nat.le_of_ble_eq_true rfl) dX4_drop_37
  · have hf := pr_t hf hc
    refine lv_aload_n hx hb dX4_drop_12 rfl (lv_at hl 0 rfl) ?_
    refine lv_iconst (v := (1 : Int32)) hx hb dX4_drop_13 (by decide) ?_
    obtain ⟨x14, hg14, hf⟩ := pr_b hf
    refine pw_cViW (b := bd 0) (As := [.int (1 : Int32)]) (rest := []) ⟨hx, hb, hml, hown, hts⟩ (c_X4_fail (D := D) (0 : Int32) m_states m_timerEvents m_transitions m_froms m_events m_variables m_relations m_numbers m_nexts m_sizes m_actions m_fired m_state m_time m_values m_runs m_dues m_emitted m_output m_ignored m_isCompiled m_classes m_numbersOf m_offsets m_useds m_tableSize m_owners m_isReached m_areApart (1 : Int32) hg14) (cwV 1 hts gX4_drop_X4_fail rfl rfl rfl (by decide +kernel) ⟨Nat.le_of_ble_eq_true rfl, Nat.le_of_ble_eq_true rfl⟩) 0 4 rfl rfl hK hP hD hS hA rfl hl.1 rfl (Nat.le_of_ble_eq_true rfl) dX4_drop_14 ⟨Nat.le_of_ble_eq_true rfl, Nat.le_of_ble_eq_true rfl⟩ (fun H locs hP hD hS => ?_)
    have hP : va_P D vwCl (MW bd cb x14.2 m_states m_timerEvents m_transitions m_froms m_events m_variables m_relations m_numbers m_nexts m_sizes m_actions m_fired m_state m_time m_values m_runs m_dues m_emitted m_output m_ignored m_isCompiled m_classes m_numbersOf m_offsets m_useds m_tableSize m_owners m_isReached m_areApart) H := hP
    have hD : va_D A (MW bd cb x14.2 m_states m_timerEvents m_transitions m_froms m_events m_variables m_relations m_numbers m_nexts m_sizes m_actions m_fired m_state m_time m_values m_runs m_dues m_emitted m_output m_ignored m_isCompiled m_classes m_numbersOf m_offsets m_useds m_tableSize m_owners m_isReached m_areApart) := hD
    obtain rfl := Option.some.inj hf
    subst hZ
    exact pw_ri hx hb hr hlocks hK hP hD hS (Nat.le_of_ble_eq_true rfl) (Nat.le_of_ble_eq_true rfl) dX4_drop_17
abbrev rmX4_setTimerEvent : Room := { frames := 2, cells := 0, slots := 0, locals := 42 }
set_option maxHeartbeats 4000000 in
set_option maxRecDepth 100000 in
theorem c_X4_setTimerEvent {l : Launch} {D : va_G} {bd : Nat → Nat} {cb : Nat → ClassId} (m_thrown m_states : Int32) (m_timerEvents : Nat → Int32) (m_transitions : Int32) (m_froms m_events m_variables m_relations m_numbers m_nexts m_sizes m_actions m_fired : Nat → Int32) (m_state : Int32) (m_time : Int64) (m_values m_runs : Nat → Int32) (m_dues : Nat → Int64) (m_emitted : Int32) (m_output : Nat → Int32) (m_ignored m_isCompiled m_classes : Int32) (m_numbersOf m_offsets m_useds : Nat → Int32) (m_tableSize : Int32) (m_owners m_isReached m_areApart : Nat → Int32) (v1 v2 : Int32) {o : Int32 × Int32 × (Nat → Int32) × Int32} (hf : X4_setTimerEvent m_thrown m_timerEvents m_isCompiled v1 v2 = some o) : Ci l yX4_setTimerEvent wsX4_setTimerEvent rmX4_setTimerEvent D (MT cb) (MW bd cb m_thrown m_states m_timerEvents m_transitions m_froms m_events m_variables m_relations m_numbers m_nexts m_sizes m_actions m_fired m_state m_time m_values m_runs m_dues m_emitted m_output m_ignored m_isCompiled m_classes m_numbersOf m_offsets m_useds m_tableSize m_owners m_isReached m_areApart) [.ref (bd 0), .int v1, .int v2] o.1 (MW bd cb o.2.1 m_states o.2.2.1 m_transitions m_froms m_events m_variables m_relations m_numbers m_nexts m_sizes m_actions m_fired m_state m_time m_values m_runs m_dues m_emitted m_output m_ignored o.2.2.2 m_classes m_numbersOf m_offsets m_useds m_tableSize m_owners m_isReached m_areApart) := by
  intro sz
  refine pw_entry (Qc := fun A => pw_Qi D (MT cb) (MW bd cb o.2.1 m_states o.2.2.1 m_transitions m_froms m_events m_variables m_relations m_numbers m_nexts m_sizes m_actions m_fired m_state m_time m_values m_runs m_dues m_emitted m_output m_ignored o.2.2.2 m_classes m_numbersOf m_offsets m_useds m_tableSize m_owners m_isReached m_areApart) A o.1) (cc := cX4_setTimerEvent) (maxL := 4) (ret := (some .int)) (by decide) rfl (Nat.le_of_ble_eq_true rfl) ?_ sz
  intro p e s m args below meth c A ls Z H locs hx hb hr hlocks hts hown hml hnm hK hP hD hS hA hl hZ
  have hown : s.vm.findClass RX4 = some m.cls := hown
  have hiX4 : ∀ w ∈ u_ws RX4 TX4 30, w ∈ wsX4_setTimerEvent := by decide +kernel
  have f13 := hts (.fieldLink RX4 13 "ProtocolMachineModel" "timerEvents" "[I") (by decide +kernel)
  have f76 := hts (.fieldLink RX4 76 "ProtocolMachineModel" "thrown" "I") (by decide +kernel)
  have f90 := hts (.fieldLink RX4 90 "ProtocolMachineModel" "isCompiled" "Z") (by decide +kernel)
  have hl : lv_has ls 4 [(0, .ref (bd 0)), (1, .int v1), (2, .int v2)] := hl
  have B21 : ∀ (m_thrown : Int32) (H : Heap) (locs : List Loc) (ls : Array Slot), va_P D vwCl (MW bd cb m_thrown m_states m_timerEvents m_transitions m_froms m_events m_variables m_relations m_numbers m_nexts m_sizes m_actions m_fired m_state m_time m_values m_runs m_dues m_emitted m_output m_ignored m_isCompiled m_classes m_numbersOf m_offsets m_useds m_tableSize m_owners m_isReached m_areApart) H → va_D A (MW bd cb m_thrown m_states m_timerEvents m_transitions m_froms m_events m_variables m_relations m_numbers m_nexts m_sizes m_actions m_fired m_state m_time m_values m_runs m_dues m_emitted m_output m_ignored m_isCompiled m_classes m_numbersOf m_offsets m_useds m_tableSize m_owners m_isReached m_areApart) → va_S A s.heap H locs → lv_has ls 4 [(0, .ref (bd 0))] → X4_setTimerEvent_B21 m_timerEvents m_isCompiled m_thrown = some o → W p l e rmX4_setTimerEvent s m args below meth c H locs 0 0 Z (F0 m 21 ls []) := by
    intro m_thrown H locs ls hP hD hS hl hf
    unfold X4_setTimerEvent_B21 at hf
    refine lv_aload_n hx hb dX4_setTimerEvent_21 rfl (lv_at hl 0 rfl) ?_
    refine lv_iconst (v := (1 : Int32)) hx hb dX4_setTimerEvent_22 (by decide) ?_
    obtain ⟨x23, hg23, hf⟩ := pr_b hf
    refine pw_cViW (b := bd 0) (As := [.int (1 : Int32)]) (rest := []) ⟨hx, hb, hml, hown, hts⟩ (c_X4_fail (D := D) m_thrown m_states m_timerEvents m_transitions m_froms m_events m_variables m_relations m_numbers m_nexts m_sizes m_actions m_fired m_state m_time m_values m_runs m_dues m_emitted m_output m_ignored m_isCompiled m_classes m_numbersOf m_offsets m_useds m_tableSize m_owners m_isReached m_areApart (1 : Int32) hg23) (cwV 1 hts gX4_setTimerEvent_X4_fail rfl rfl rfl (by decide +kernel) ⟨Nat.le_of_ble_eq_true rfl, Nat.le_of_ble_eq_true rfl⟩) 0 4 rfl rfl hK hP hD hS hA rfl hl.1 rfl (Nat.le_of_ble_eq_true rfl) dX4_setTimerEvent_23 ⟨Nat.le_of_ble_eq_true rfl, Nat.le_of_ble_eq_true rfl⟩ (fun H locs hP hD hS => ?_)
    have hP : va_P D vwCl (MW bd cb x23.2 m_states m_timerEvents m_transitions m_froms m_events m_variables m_relations m_numbers m_nexts m_sizes m_actions m_fired m_state m_time m_values m_runs m_dues m_emitted m_output m_ignored m_isCompiled m_classes m_numbersOf m_offsets m_useds m_tableSize m_owners m_isReached m_areApart) H := hP
    have hD : va_D A (MW bd cb x23.2 m_states m_timerEvents m_transitions m_froms m_events m_variables m_relations m_numbers m_nexts m_sizes m_actions m_fired m_state m_time m_values m_runs m_dues m_emitted m_output m_ignored m_isCompiled m_classes m_numbersOf m_offsets m_useds m_tableSize m_owners m_isReached m_areApart) := hD
    obtain rfl := Option.some.inj hf
    subst hZ
    exact pw_ri hx hb hr hlocks hK hP hD hS (Nat.le_of_ble_eq_true rfl) (Nat.le_of_ble_eq_true rfl) dX4_setTimerEvent_26
  unfold X4_setTimerEvent at hf
  refine lv_aload_n hx hb dX4_setTimerEvent_0 rfl (lv_at hl 0 rfl) ?_
  refine lv_iconst (v := (0 : Int32)) hx hb dX4_setTimerEvent_1 (by decide) ?_
  refine va_put (D := D) (ci := 4) (v := .int (0 : Int32)) (ty := .int) (C := RX4) (T := TX4) (N := 30) hx hb hts hiX4 tyX4 tyX4_ok nmX4 hown hK hP hD hS 0 rfl rfl 0 (by decide) f76 (fun _ h9 => h9) rfl (by decide +kernel) rfl rfl (Nat.le_of_ble_eq_true rfl) dX4_setTimerEvent_2 (fun H locs hP hD hS => ?_)
  have hP : va_P D vwCl (MW bd cb (0 : Int32) m_states m_timerEvents m_transitions m_froms m_events m_variables m_relations m_numbers m_nexts m_sizes m_actions m_fired m_state m_time m_values m_runs m_dues m_emitted m_output m_ignored m_isCompiled m_classes m_numbersOf m_offsets m_useds m_tableSize m_owners m_isReached m_areApart) H := hP
  have hD : va_D A (MW bd cb (0 : Int32) m_states m_timerEvents m_transitions m_froms m_events m_variables m_relations m_numbers m_nexts m_sizes m_actions m_fired m_state m_time m_values m_runs m_dues m_emitted m_output m_ignored m_isCompiled m_classes m_numbersOf m_offsets m_useds m_tableSize m_owners m_isReached m_areApart) := hD
  refine lv_iload_n hx hb dX4_setTimerEvent_5 rfl (lv_at hl 1 rfl) ?_
  refine lv_iconst (v := (0 : Int32)) hx hb dX4_setTimerEvent_6 (by decide) ?_
  refine lv_iconst (v := (3 : Int32)) hx hb dX4_setTimerEvent_7 (by decide) ?_
  obtain ⟨x8, hg8, hf⟩ := pr_b hf
  refine pw_cSiE (As := [.int v1, .int (0 : Int32), .int (3 : Int32)]) (rest := []) ⟨hx, hb, hml, hown, hts⟩ (c_X4_isIn (D := D) (tys := (MT cb)) v1 (0 : Int32) (3 : Int32) hg8) (va_cwS 3 hts gX4_setTimerEvent_X4_isIn rfl rfl rfl (by decide +kernel) ⟨Nat.le_of_ble_eq_true rfl, Nat.le_of_ble_eq_true rfl⟩) hK hP hD hS hA rfl hl.1 rfl (Nat.le_of_ble_eq_true rfl) dX4_setTimerEvent_8 ⟨Nat.le_of_ble_eq_true rfl, Nat.le_of_ble_eq_true rfl⟩ (fun H locs hP hD hS => ?_)
  refine lv_if_eq (tgt := 21) hx hb dX4_setTimerEvent_11 (by decide) (fun hc => ?_) (fun hc => ?_)
  · have hf := pr_t hf hc
    exact B21 (0 : Int32) H locs ls hP hD hS (lv_sub hl [0] rfl) hf
  · have hf := pr_f hf hc
    refine lv_iload_n hx hb dX4_setTimerEvent_14 rfl (lv_at hl 2 rfl) ?_
    obtain ⟨x15, hg15, hf⟩ := pr_b hf
    refine pw_cSiE (As := [.int v2]) (rest := []) ⟨hx, hb, hml, hown, hts⟩ (c_X4_isEvent (D := D) (tys := (MT cb)) v2 hg15) (va_cwS 1 hts gX4_setTimerEvent_X4_isEvent rfl rfl rfl (by decide +kernel) ⟨Nat.le_of_ble_eq_true rfl, Nat.le_of_ble_eq_true rfl⟩) hK hP hD hS hA rfl hl.1 rfl (Nat.le_of_ble_eq_true rfl) dX4_setTimerEvent_15 ⟨Nat.le_of_ble_eq_true rfl, Nat.le_of_ble_eq_true rfl⟩ (fun H locs hP hD hS => ?_)
    refine lv_if_ne (tgt := 27) hx hb dX4_setTimerEvent_18 (by decide) (fun hc => ?_) (fun hc => ?_)
    · have hf := pr_f hf hc
      refine lv_aload_n hx hb dX4_setTimerEvent_27 rfl (lv_at hl 0 rfl) ?_
      refine va_get (D := D) (ci := 4) (v := .ref (bd 1)) (C := RX4) (T := TX4) (N := 30) hx hb hts hiX4 hown hK hP 0 rfl rfl 2 (by decide) f13 (fun _ h9 => h9) rfl dX4_setTimerEvent_28 ?_
      refine lv_iload_n hx hb dX4_setTimerEvent_31 rfl (lv_at hl 1 rfl) ?_
      obtain ⟨hi32, hf⟩ := pr_in hf
      refine va_iald hx hb hK hP 1 0 rfl rfl hi32 dX4_setTimerEvent_32 ?_
      refine lv_istore_n (lv' := [(3, .int (m_timerEvents v1.toNatClampNeg)), (0, .ref (bd 0)), (1, .int v1), (2, .int v2)]) hx hb dX4_setTimerEvent_33 rfl hl (by decide) rfl (fun ls hl => ?_)
      refine lv_aload_n hx hb dX4_setTimerEvent_34 rfl (lv_at hl 1 rfl) ?_
      refine va_get (D := D) (ci := 4) (v := .ref (bd 1)) (C := RX4) (T := TX4) (N := 30) hx hb hts hiX4 hown hK hP 0 rfl rfl 2 (by decide) f13 (fun _ h9 => h9) rfl dX4_setTimerEvent_35 ?_
      refine lv_iload_n hx hb dX4_setTimerEvent_38 rfl (lv_at hl 2 rfl) ?_
      refine lv_iload_n hx hb dX4_setTimerEvent_39 rfl (lv_at hl 3 rfl) ?_
      refine va_iast hx hb hK hP hD hS 1 0 rfl rfl hi32 dX4_setTimerEvent_40 (fun H locs hP hD hS => ?_)
      have hP : va_P D vwCl (MW bd cb (0 : Int32) m_states (upd m_timerEvents v1.toNatClampNeg v2) m_transitions m_froms m_events m_variables m_relations m_numbers m_nexts m_sizes m_actions m_fired m_state m_time m_values m_runs m_dues m_emitted m_output m_ignored m_isCompiled m_classes m_numbersOf m_offsets m_useds m_tableSize m_owners m_isReached m_areApart) H := hP
      have hD : va_D A (MW bd cb (0 : Int32) m_states (upd m_timerEvents v1.toNatClampNeg v2) m_transitions m_froms m_events m_variables m_relations m_numbers m_nexts m_sizes m_actions m_fired m_state m_time m_values m_runs m_dues m_emitted m_output m_ignored m_isCompiled m_classes m_numbersOf m_offsets m_useds m_tableSize m_owners m_isReached m_areApart) := hD
      refine lv_aload_n hx hb dX4_setTimerEvent_41 rfl (lv_at hl 1 rfl) ?_
      refine lv_iconst (v := (0 : Int32)) hx hb dX4_setTimerEvent_42 (by decide) ?_
      refine va_put (D := D) (ci := 4) (v := .int (0 : Int32)) (ty := .boolean) (C := RX4) (T := TX4) (N := 30) hx hb hts hiX4 tyX4 tyX4_ok nmX4 hown hK hP hD hS 0 rfl rfl 21 (by decide) f90 (fun _ h9 => h9) rfl (by decide +kernel) rfl rfl (Nat.le_of_ble_eq_true rfl) dX4_setTimerEvent_43 (fun H locs hP hD hS => ?_)
      have hP : va_P D vwCl (MW bd cb (0 : Int32) m_states (upd m_timerEvents v1.toNatClampNeg v2) m_transitions m_froms m_events m_variables m_relations m_numbers m_nexts m_sizes m_actions m_fired m_state m_time m_values m_runs m_dues m_emitted m_output m_ignored (0 : Int32) m_classes m_numbersOf m_offsets m_useds m_tableSize m_owners m_isReached m_areApart) H := hP
      have hD : va_D A (MW bd cb (0 : Int32) m_states (upd m_timerEvents v1.toNatClampNeg v2) m_transitions m_froms m_events m_variables m_relations m_numbers m_nexts m_sizes m_actions m_fired m_state m_time m_values m_runs m_dues m_emitted m_output m_ignored (0 : Int32) m_classes m_numbersOf m_offsets m_useds m_tableSize m_owners m_isReached m_areApart) := hD
      refine lv_iload_n hx hb dX4_setTimerEvent_46 rfl (lv_at hl 0 rfl) ?_
      obtain rfl := Option.some.inj hf
      subst hZ
      exact pw_ri hx hb hr hlocks hK hP hD hS (Nat.le_of_ble_eq_true rfl) (Nat.le_of_ble_eq_true rfl) dX4_setTimerEvent_47
    · have hf := pr_t hf hc
      exact B21 (0 : Int32) H locs ls hP hD hS (lv_sub hl [0] rfl) hf
abbrev rmX4_stateCount : Room := { frames := 0, cells := 0, slots := 0, locals := 0 }
set_option maxHeartbeats 4000000 in
set_option maxRecDepth 100000 in
theorem c_X4_stateCount {l : Launch} {D : va_G} {bd : Nat → Nat} {cb : Nat → ClassId} (m_thrown m_states : Int32) (m_timerEvents : Nat → Int32) (m_transitions : Int32) (m_froms m_events m_variables m_relations m_numbers m_nexts m_sizes m_actions m_fired : Nat → Int32) (m_state : Int32) (m_time : Int64) (m_values m_runs : Nat → Int32) (m_dues : Nat → Int64) (m_emitted : Int32) (m_output : Nat → Int32) (m_ignored m_isCompiled m_classes : Int32) (m_numbersOf m_offsets m_useds : Nat → Int32) (m_tableSize : Int32) (m_owners m_isReached m_areApart : Nat → Int32) {o : Int32 × Int32} (hf : X4_stateCount m_thrown m_states = some o) : Ci l yX4_stateCount wsX4_stateCount rmX4_stateCount D (MT cb) (MW bd cb m_thrown m_states m_timerEvents m_transitions m_froms m_events m_variables m_relations m_numbers m_nexts m_sizes m_actions m_fired m_state m_time m_values m_runs m_dues m_emitted m_output m_ignored m_isCompiled m_classes m_numbersOf m_offsets m_useds m_tableSize m_owners m_isReached m_areApart) [.ref (bd 0)] o.1 (MW bd cb o.2 m_states m_timerEvents m_transitions m_froms m_events m_variables m_relations m_numbers m_nexts m_sizes m_actions m_fired m_state m_time m_values m_runs m_dues m_emitted m_output m_ignored m_isCompiled m_classes m_numbersOf m_offsets m_useds m_tableSize m_owners m_isReached m_areApart) := by
  intro sz
  refine pw_entry (Qc := fun A => pw_Qi D (MT cb) (MW bd cb o.2 m_states m_timerEvents m_transitions m_froms m_events m_variables m_relations m_numbers m_nexts m_sizes m_actions m_fired m_state m_time m_values m_runs m_dues m_emitted m_output m_ignored m_isCompiled m_classes m_numbersOf m_offsets m_useds m_tableSize m_owners m_isReached m_areApart) A o.1) (cc := cX4_stateCount) (maxL := 1) (ret := (some .int)) (by decide) rfl (Nat.le_of_ble_eq_true rfl) ?_ sz
  intro p e s m args below meth c A ls Z H locs hx hb hr hlocks hts hown hml hnm hK hP hD hS hA hl hZ
  have hown : s.vm.findClass RX4 = some m.cls := hown
  have hiX4 : ∀ w ∈ u_ws RX4 TX4 30, w ∈ wsX4_stateCount := by decide +kernel
  have f7 := hts (.fieldLink RX4 7 "ProtocolMachineModel" "states" "I") (by decide +kernel)
  have f76 := hts (.fieldLink RX4 76 "ProtocolMachineModel" "thrown" "I") (by decide +kernel)
  have hl : lv_has ls 1 [(0, .ref (bd 0))] := hl
  unfold X4_stateCount at hf
  refine lv_aload_n hx hb dX4_stateCount_0 rfl (lv_at hl 0 rfl) ?_
  refine lv_iconst (v := (0 : Int32)) hx hb dX4_stateCount_1 (by decide) ?_
  refine va_put (D := D) (ci := 4) (v := .int (0 : Int32)) (ty := .int) (C := RX4) (T := TX4) (N := 30) hx hb hts hiX4 tyX4 tyX4_ok nmX4 hown hK hP hD hS 0 rfl rfl 0 (by decide) f76 (fun _ h9 => h9) rfl (by decide +kernel) rfl rfl (Nat.le_of_ble_eq_true rfl) dX4_stateCount_2 (fun H locs hP hD hS => ?_)
  have hP : va_P D vwCl (MW bd cb (0 : Int32) m_states m_timerEvents m_transitions m_froms m_events m_variables m_relations m_numbers m_nexts m_sizes m_actions m_fired m_state m_time m_values m_runs m_dues m_emitted m_output m_ignored m_isCompiled m_classes m_numbersOf m_offsets m_useds m_tableSize m_owners m_isReached m_areApart) H := hP
  have hD : va_D A (MW bd cb (0 : Int32) m_states m_timerEvents m_transitions m_froms m_events m_variables m_relations m_numbers m_nexts m_sizes m_actions m_fired m_state m_time m_values m_runs m_dues m_emitted m_output m_ignored m_isCompiled m_classes m_numbersOf m_offsets m_useds m_tableSize m_owners m_isReached m_areApart) := hD
  refine lv_aload_n hx hb dX4_stateCount_5 rfl (lv_at hl 0 rfl) ?_
  refine va_get (D := D) (ci := 4) (v := .int m_states) (C := RX4) (T := TX4) (N := 30) hx hb hts hiX4 hown hK hP 0 rfl rfl 1 (by decide) f7 (fun _ h9 => h9) rfl dX4_stateCount_6 ?_
  obtain rfl := Option.some.inj hf
  subst hZ
  exact pw_ri hx hb hr hlocks hK hP hD hS (Nat.le_of_ble_eq_true rfl) (Nat.le_of_ble_eq_true rfl) dX4_stateCount_9
abbrev rmX4_transitionCount : Room := { frames := 0, cells := 0, slots := 0, locals := 0 }
set_option maxHeartbeats 4000000 in
set_option maxRecDepth 100000 in
theorem c_X4_transitionCount {l : Launch} {D : va_G} {bd : Nat → Nat} {cb : Nat → ClassId} (m_thrown m_states : Int32) (m_timerEvents : Nat → Int32) (m_transitions : Int32) (m_froms m_events m_variables m_relations m_numbers m_nexts m_sizes m_actions m_fired : Nat → Int32) (m_state : Int32) (m_time : Int64) (m_values m_runs : Nat → Int32) (m_dues : Nat → Int64) (m_emitted : Int32) (m_output : Nat → Int32) (m_ignored m_isCompiled m_classes : Int32) (m_numbersOf m_offsets m_useds : Nat → Int32) (m_tableSize : Int32) (m_owners m_isReached m_areApart : Nat → Int32) {o : Int32 × Int32} (hf : X4_transitionCount m_thrown m_transitions = some o) : Ci l yX4_transitionCount wsX4_transitionCount rmX4_transitionCount D (MT cb) (MW bd cb m_thrown m_states m_timerEvents m_transitions m_froms m_events m_variables m_relations m_numbers m_nexts m_sizes m_actions m_fired m_state m_time m_values m_runs m_dues m_emitted m_output m_ignored m_isCompiled m_classes m_numbersOf m_offsets m_useds m_tableSize m_owners m_isReached m_areApart) [.ref (bd 0)] o.1 (MW bd cb o.2 m_states m_timerEvents m_transitions m_froms m_events m_variables m_relations m_numbers m_nexts m_sizes m_actions m_fired m_state m_time m_values m_runs m_dues m_emitted m_output m_ignored m_isCompiled m_classes m_numbersOf m_offsets m_useds m_tableSize m_owners m_isReached m_areApart) := by
  intro sz
  refine pw_entry (Qc := fun A => pw_Qi D (MT cb) (MW bd cb o.2 m_states m_timerEvents m_transitions m_froms m_events m_variables m_relations m_numbers m_nexts m_sizes m_actions m_fired m_state m_time m_values m_runs m_dues m_emitted m_output m_ignored m_isCompiled m_classes m_numbersOf m_offsets m_useds m_tableSize m_owners m_isReached m_areApart) A o.1) (cc := cX4_transitionCount) (maxL := 1) (ret := (some .int)) (by decide) rfl (Nat.le_of_ble_eq_true rfl) ?_ sz
  intro p e s m args below meth c A ls Z H locs hx hb hr hlocks hts hown hml hnm hK hP hD hS hA hl hZ
  have hown : s.vm.findClass RX4 = some m.cls := hown
  have hiX4 : ∀ w ∈ u_ws RX4 TX4 30, w ∈ wsX4_transitionCount := by decide +kernel
  have f76 := hts (.fieldLink RX4 76 "ProtocolMachineModel" "thrown" "I") (by decide +kernel)
  have f83 := hts (.fieldLink RX4 83 "ProtocolMachineModel" "transitions" "I") (by decide +kernel)
  have hl : lv_has ls 1 [(0, .ref (bd 0))] := hl
  unfold X4_transitionCount at hf
  refine lv_aload_n hx hb dX4_transitionCount_0 rfl (lv_at hl 0 rfl) ?_
  refine lv_iconst (v := (0 : Int32)) hx hb dX4_transitionCount_1 (by decide) ?_
  refine va_put (D := D) (ci := 4) (v := .int (0 : Int32)) (ty := .int) (C := RX4) (T := TX4) (N := 30) hx hb hts hiX4 tyX4 tyX4_ok nmX4 hown hK hP hD hS 0 rfl rfl 0 (by decide) f76 (fun _ h9 => h9) rfl (by decide +kernel) rfl rfl (Nat.le_of_ble_eq_true rfl) dX4_transitionCount_2 (fun H locs hP hD hS => ?_)
  have hP : va_P D vwCl (MW bd cb (0 : Int32) m_states m_timerEvents m_transitions m_froms m_events m_variables m_relations m_numbers m_nexts m_sizes m_actions m_fired m_state m_time m_values m_runs m_dues m_emitted m_output m_ignored m_isCompiled m_classes m_numbersOf m_offsets m_useds m_tableSize m_owners m_isReached m_areApart) H := hP
  have hD : va_D A (MW bd cb (0 : Int32) m_states m_timerEvents m_transitions m_froms m_events m_variables m_relations m_numbers m_nexts m_sizes m_actions m_fired m_state m_time m_values m_runs m_dues m_emitted m_output m_ignored m_isCompiled m_classes m_numbersOf m_offsets m_useds m_tableSize m_owners m_isReached m_areApart) := hD
  refine lv_aload_n hx hb dX4_transitionCount_5 rfl (lv_at hl 0 rfl) ?_
  refine va_get (D := D) (ci := 4) (v := .int m_transitions) (C := RX4) (T := TX4) (N := 30) hx hb hts hiX4 hown hK hP 0 rfl rfl 3 (by decide) f83 (fun _ h9 => h9) rfl dX4_transitionCount_6 ?_
  obtain rfl := Option.some.inj hf
  subst hZ
  exact pw_ri hx hb hr hlocks hK hP hD hS (Nat.le_of_ble_eq_true rfl) (Nat.le_of_ble_eq_true rfl) dX4_transitionCount_9
abbrev rmX4_isTrue : Room := { frames := 0, cells := 0, slots := 0, locals := 0 }
set_option maxHeartbeats 4000000 in
set_option maxRecDepth 100000 in
theorem c_X4_isTrue {l : Launch} {D : va_G} {bd : Nat → Nat} {cb : Nat → ClassId} (m_thrown m_states : Int32) (m_timerEvents : Nat → Int32) (m_transitions : Int32) (m_froms m_events m_variables m_relations m_numbers m_nexts m_sizes m_actions m_fired : Nat → Int32) (m_state : Int32) (m_time : Int64) (m_values m_runs : Nat → Int32) (m_dues : Nat → Int64) (m_emitted : Int32) (m_output : Nat → Int32) (m_ignored m_isCompiled m_classes : Int32) (m_numbersOf m_offsets m_useds : Nat → Int32) (m_tableSize : Int32) (m_owners m_isReached m_areApart : Nat → Int32) (v1 v2 : Int32) {o : Int32} (hf : X4_isTrue m_variables m_relations m_numbers v1 v2 = some o) : Ci l yX4_isTrue wsX4_isTrue rmX4_isTrue D (MT cb) (MW bd cb m_thrown m_states m_timerEvents m_transitions m_froms m_events m_variables m_relations m_numbers m_nexts m_sizes m_actions m_fired m_state m_time m_values m_runs m_dues m_emitted m_output m_ignored m_isCompiled m_classes m_numbersOf m_offsets m_useds m_tableSize m_owners m_isReached m_areApart) [.ref (bd 0), .int v1, .int v2] o (MW bd cb m_thrown m_states m_timerEvents m_transitions m_froms m_events m_variables m_relations m_numbers m_nexts m_sizes m_actions m_fired m_state m_time m_values m_runs m_dues m_emitted m_output m_ignored m_isCompiled m_classes m_numbersOf m_offsets m_useds m_tableSize m_owners m_isReached m_areApart) := by
  intro sz
  refine pw_entry (Qc := fun A => pw_Qi D (MT cb) (MW bd cb m_thrown m_states m_timerEvents m_transitions m_froms m_events m_variables m_relations m_numbers m_nexts m_sizes m_actions m_fired m_state m_time m_values m_runs m_dues m_emitted m_output m_ignored m_isCompiled m_classes m_numbersOf m_offsets m_useds m_tableSize m_owners m_isReached m_areApart) A o) (cc := cX4_isTrue) (maxL := 3) (ret := (some .boolean)) (by decide) rfl (Nat.le_of_ble_eq_true rfl) ?_ sz
  intro p e s m args below meth c A ls Z H locs hx hb hr hlocks hts hown hml hnm hK hP hD hS hA hl hZ
  have hown : s.vm.findClass RX4 = some m.cls := hown
  have hiX4 : ∀ w ∈ u_ws RX4 TX4 30, w ∈ wsX4_isTrue := by decide +kernel
  have f23 := hts (.fieldLink RX4 23 "ProtocolMachineModel" "variables" "[I") (by decide +kernel)
  have f26 := hts (.fieldLink RX4 26 "ProtocolMachineModel" "relations" "[I") (by decide +kernel)
  have f29 := hts (.fieldLink RX4 29 "ProtocolMachineModel" "numbers" "[I") (by decide +kernel)
  have hl : lv_has ls 3 [(0, .ref (bd 0)), (1, .int v1), (2, .int v2)] := hl
  unfold X4_isTrue at hf
  refine lv_aload_n hx hb dX4_isTrue_0 rfl (lv_at hl 0 rfl) ?_
  refine va_get (D := D) (ci := 4) (v := .ref (bd 4)) (C := RX4) (T := TX4) (N := 30) hx hb hts hiX4 hown hK hP 0 rfl rfl 6 (by decide) f23 (fun _ h9 => h9) rfl dX4_isTrue_1 ?_
  refine lv_iload_n hx hb dX4_isTrue_4 rfl (lv_at hl 1 rfl) ?_
  obtain ⟨hi5, hf⟩ := pr_in hf
  refine va_iald hx hb hK hP 4 3 rfl rfl hi5 dX4_isTrue_5 ?_
  refine lv_iconst (v := (-1 : Int32)) hx hb dX4_isTrue_6 (by decide) ?_
  refine lv_icmp_eq (tgt := 65) hx hb dX4_isTrue_7 (by decide) (fun hc => ?_) (fun hc => ?_)
  · have hf := pr_t hf hc
    refine lv_iconst (v := (1 : Int32)) hx hb dX4_isTrue_65 (by decide) ?_
    refine lv_goto (tgt := 70) hx hb dX4_isTrue_66 (by decide) ?_
    obtain rfl := Option.some.inj hf
    subst hZ
    exact pw_rz hx hb hr hlocks (Or.inr rfl) hK hP hD hS (Nat.le_of_ble_eq_true rfl) (Nat.le_of_ble_eq_true rfl) dX4_isTrue_70
  · have hf := pr_f hf hc
    refine lv_aload_n hx hb dX4_isTrue_10 rfl (lv_at hl 0 rfl) ?_
    refine va_get (D := D) (ci := 4) (v := .ref (bd 5)) (C := RX4) (T := TX4) (N := 30) hx hb hts hiX4 hown hK hP 0 rfl rfl 7 (by decide) f26 (fun _ h9 => h9) rfl dX4_isTrue_11 ?_
    refine lv_iload_n hx hb dX4_isTrue_14 rfl (lv_at hl 1 rfl) ?_
    refine va_iald hx hb hK hP 5 4 rfl rfl hi5 dX4_isTrue_15 ?_
    refine lv_if_ne (tgt := 32) hx hb dX4_isTrue_16 (by decide) (fun hc => ?_) (fun hc => ?_)
    · have hf := pr_f hf hc
      refine lv_aload_n hx hb dX4_isTrue_32 rfl (lv_at hl 0 rfl) ?_
      refine va_get (D := D) (ci := 4) (v := .ref (bd 5)) (C := RX4) (T := TX4) (N := 30) hx hb hts hiX4 hown hK hP 0 rfl rfl 7 (by decide) f26 (fun _ h9 => h9) rfl dX4_isTrue_33 ?_
      refine lv_iload_n hx hb dX4_isTrue_36 rfl (lv_at hl 1 rfl) ?_
      refine va_iald hx hb hK hP 5 4 rfl rfl hi5 dX4_isTrue_37 ?_
      refine lv_iconst (v := (1 : Int32)) hx hb dX4_isTrue_38 (by decide) ?_
      refine lv_icmp_ne (tgt := 55) hx hb dX4_isTrue_39 (by decide) (fun hc => ?_) (fun hc => ?_)
      · have hf := pr_f hf hc
        refine lv_iload_n hx hb dX4_isTrue_55 rfl (lv_at hl 2 rfl) ?_
        refine lv_aload_n hx hb dX4_isTrue_56 rfl (lv_at hl 0 rfl) ?_
        refine va_get (D := D) (ci := 4) (v := .ref (bd 6)) (C := RX4) (T := TX4) (N := 30) hx hb hts hiX4 hown hK hP 0 rfl rfl 8 (by decide) f29 (fun _ h9 => h9) rfl dX4_isTrue_57 ?_
        refine lv_iload_n hx hb dX4_isTrue_60 rfl (lv_at hl 1 rfl) ?_
        refine va_iald hx hb hK hP 6 5 rfl rfl hi5 dX4_isTrue_61 ?_
        refine lv_icmp_le (tgt := 69) hx hb dX4_isTrue_62 (by decide) (fun hc => ?_) (fun hc => ?_)
        · have hf := pr_t hf hc
          refine lv_iconst (v := (0 : Int32)) hx hb dX4_isTrue_69 (by decide) ?_
          obtain rfl := Option.some.inj hf
          subst hZ
          exact pw_rz hx hb hr hlocks (Or.inl rfl) hK hP hD hS (Nat.le_of_ble_eq_true rfl) (Nat.le_of_ble_eq_true rfl) dX4_isTrue_70
        · have hf := pr_f hf hc
          refine lv_iconst (v := (1 : Int32)) hx hb dX4_isTrue_65 (by decide) ?_
          refine lv_goto (tgt := 70) hx hb dX4_isTrue_66 (by decide) ?_
          obtain rfl := Option.some.inj hf
          subst hZ
          exact pw_rz hx hb hr hlocks (Or.inr rfl) hK hP hD hS (Nat.le_of_ble_eq_true rfl) (Nat.le_of_ble_eq_true rfl) dX4_isTrue_70
      · have hf := pr_t hf hc
        refine lv_iload_n hx hb dX4_isTrue_42 rfl (lv_at hl 2 rfl) ?_
        refine lv_aload_n hx hb dX4_isTrue_43 rfl (lv_at hl 0 rfl) ?_
        refine va_get (D := D) (ci := 4) (v := .ref (bd 6)) (C := RX4) (T := TX4) (N := 30) hx hb hts hiX4 hown hK hP 0 rfl rfl 8 (by decide) f29 (fun _ h9 => h9) rfl dX4_isTrue_44 ?_
        refine lv_iload_n hx hb dX4_isTrue_47 rfl (lv_at hl 1 rfl) ?_
        refine va_iald hx hb hK hP 6 5 rfl rfl hi5 dX4_isTrue_48 ?_
        refine lv_icmp_ne (tgt := 69) hx hb dX4_isTrue_49 (by decide) (fun hc => ?_) (fun hc => ?_)
        · have hf := pr_f hf hc
          refine lv_iconst (v := (0 : Int32)) hx hb dX4_isTrue_69 (by decide) ?_
          obtain rfl := Option.some.inj hf
          subst hZ
          exact pw_rz hx hb hr hlocks (Or.inl rfl) hK hP hD hS (Nat.le_of_ble_eq_true rfl) (Nat.le_of_ble_eq_true rfl) dX4_isTrue_70
        · have hf := pr_t hf hc
          refine lv_goto (tgt := 65) hx hb dX4_isTrue_52 (by decide) ?_
          refine lv_iconst (v := (1 : Int32)) hx hb dX4_isTrue_65 (by decide) ?_
          refine lv_goto (tgt := 70) hx hb dX4_isTrue_66 (by decide) ?_
          obtain rfl := Option.some.inj hf
          subst hZ
          exact pw_rz hx hb hr hlocks (Or.inr rfl) hK hP hD hS (Nat.le_of_ble_eq_true rfl) (Nat.le_of_ble_eq_true rfl) dX4_isTrue_70
    · have hf := pr_t hf hc
      refine lv_iload_n hx hb dX4_isTrue_19 rfl (lv_at hl 2 rfl) ?_
      refine lv_aload_n hx hb dX4_isTrue_20 rfl (lv_at hl 0 rfl) ?_
      refine va_get (D := D) (ci := 4) (v := .ref (bd 6)) (C := RX4) (T := TX4) (N := 30) hx hb hts hiX4 hown hK hP 0 rfl rfl 8 (by decide) f29 (fun _ h9 => h9) rfl dX4_isTrue_21 ?_
      refine lv_iload_n hx hb dX4_isTrue_24 rfl (lv_at hl 1 rfl) ?_
      refine va_iald hx hb hK hP 6 5 rfl rfl hi5 dX4_isTrue_25 ?_
      refine lv_icmp_ge (tgt := 69) hx hb dX4_isTrue_26 (by decide) (fun hc => ?_) (fun hc => ?_)
      · have hf := pr_t hf hc
        refine lv_iconst (v := (0 : Int32)) hx hb dX4_isTrue_69 (by decide) ?_
        obtain rfl := Option.some.inj hf
        subst hZ
        exact pw_rz hx hb hr hlocks (Or.inl rfl) hK hP hD hS (Nat.le_of_ble_eq_true rfl) (Nat.le_of_ble_eq_true rfl) dX4_isTrue_70
      · have hf := pr_f hf hc
        refine lv_goto (tgt := 65) hx hb dX4_isTrue_29 (by decide) ?_
        refine lv_iconst (v := (1 : Int32)) hx hb dX4_isTrue_65 (by decide) ?_
        refine lv_goto (tgt := 70) hx hb dX4_isTrue_66 (by decide) ?_
        obtain rfl := Option.some.inj hf
        subst hZ
        exact pw_rz hx hb hr hlocks (Or.inr rfl) hK hP hD hS (Nat.le_of_ble_eq_true rfl) (Nat.le_of_ble_eq_true rfl) dX4_isTrue_70
abbrev rmX4_hides : Room := { frames := 1, cells := 0, slots := 0, locals := 22 }
set_option maxHeartbeats 4000000 in
set_option maxRecDepth 100000 in
theorem c_X4_hides {l : Launch} {D : va_G} {bd : Nat → Nat} {cb : Nat → ClassId} (fu : Nat) (m_thrown m_states : Int32) (m_timerEvents : Nat → Int32) (m_transitions : Int32) (m_froms m_events m_variables m_relations m_numbers m_nexts m_sizes m_actions m_fired : Nat → Int32) (m_state : Int32) (m_time : Int64) (m_values m_runs : Nat → Int32) (m_dues : Nat → Int64) (m_emitted : Int32) (m_output : Nat → Int32) (m_ignored m_isCompiled m_classes : Int32) (m_numbersOf m_offsets m_useds : Nat → Int32) (m_tableSize : Int32) (m_owners m_isReached m_areApart : Nat → Int32) (v1 v2 : Int32) {o : Int32} (hf : X4_hides fu m_froms m_events m_variables m_relations m_numbers v1 v2 = some o) : Ci l yX4_hides wsX4_hides rmX4_hides D (MT cb) (MW bd cb m_thrown m_states m_timerEvents m_transitions m_froms m_events m_variables m_relations m_numbers m_nexts m_sizes m_actions m_fired m_state m_time m_values m_runs m_dues m_emitted m_output m_ignored m_isCompiled m_classes m_numbersOf m_offsets m_useds m_tableSize m_owners m_isReached m_areApart) [.ref (bd 0), .int v1, .int v2] o (MW bd cb m_thrown m_states m_timerEvents m_transitions m_froms m_events m_variables m_relations m_numbers m_nexts m_sizes m_actions m_fired m_state m_time m_values m_runs m_dues m_emitted m_output m_ignored m_isCompiled m_classes m_numbersOf m_offsets m_useds m_tableSize m_owners m_isReached m_areApart) := by
  intro sz
  refine pw_entry (Qc := fun A => pw_Qi D (MT cb) (MW bd cb m_thrown m_states m_timerEvents m_transitions m_froms m_events m_variables m_relations m_numbers m_nexts m_sizes m_actions m_fired m_state m_time m_values m_runs m_dues m_emitted m_output m_ignored m_isCompiled m_classes m_numbersOf m_offsets m_useds m_tableSize m_owners m_isReached m_areApart) A o) (cc := cX4_hides) (maxL := 5) (ret := (some .boolean)) (by decide) rfl (Nat.le_of_ble_eq_true rfl) ?_ sz
  intro p e s m args below meth c A ls Z H locs hx hb hr hlocks hts hown hml hnm hK hP hD hS hA hl hZ
  have hown : s.vm.findClass RX4 = some m.cls := hown
  have hiX4 : ∀ w ∈ u_ws RX4 TX4 30, w ∈ wsX4_hides := by decide +kernel
  have f17 := hts (.fieldLink RX4 17 "ProtocolMachineModel" "froms" "[I") (by decide +kernel)
  have f20 := hts (.fieldLink RX4 20 "ProtocolMachineModel" "events" "[I") (by decide +kernel)
  have f23 := hts (.fieldLink RX4 23 "ProtocolMachineModel" "variables" "[I") (by decide +kernel)
  have hl : lv_has ls 5 [(0, .ref (bd 0)), (1, .int v1), (2, .int v2)] := hl
  have L68 : ∀ n68 : Nat, ∀ (v3 v4 : Int32) (H : Heap) (locs : List Loc) (ls : Array Slot), va_P D vwCl (MW bd cb m_thrown m_states m_timerEvents m_transitions m_froms m_events m_variables m_relations m_numbers m_nexts m_sizes m_actions m_fired m_state m_time m_values m_runs m_dues m_emitted m_output m_ignored m_isCompiled m_classes m_numbersOf m_offsets m_useds m_tableSize m_owners m_isReached m_areApart) H → va_D A (MW bd cb m_thrown m_states m_timerEvents m_transitions m_froms m_events m_variables m_relations m_numbers m_nexts m_sizes m_actions m_fired m_state m_time m_values m_runs m_dues m_emitted m_output m_ignored m_isCompiled m_classes m_numbersOf m_offsets m_useds m_tableSize m_owners m_isReached m_areApart) → va_S A s.heap H locs → lv_has ls 5 [(0, .ref (bd 0)), (1, .int v1), (2, .int v2), (3, .int v3), (4, .int v4)] → X4_hides_L68 m_variables m_relations m_numbers v1 v2 n68 v3 v4 = some o → W p l e rmX4_hides s m args below meth c H locs 0 0 Z (F0 m 68 ls []) := by
    intro n68
    induction n68 with
    | zero =>
      intro v3 v4 H locs ls hP hD hS hl hf
      exact pr_n hf
    | succ n68 ih68 =>
      intro v3 v4 H locs ls hP hD hS hl hf
      replace hf : X4_hides_B68 m_variables m_relations m_numbers v1 v2 (X4_hides_L68 m_variables m_relations m_numbers v1 v2  n68) v3 v4 = some o := hf
      unfold X4_hides_B68 at hf
      refine lv_iload hx hb dX4_hides_68 (lv_at hl 4 rfl) ?_
      refine lv_sipush (v := (1000 : Int32)) hx hb dX4_hides_70 (by decide) ?_
      refine lv_icmp_gt (tgt := 112) hx hb dX4_hides_73 (by decide) (fun hc => ?_) (fun hc => ?_)
      · have hf := pr_t hf hc
        refine lv_iload_n hx hb dX4_hides_112 rfl (lv_at hl 3 rfl) ?_
        obtain ⟨hn, hf⟩ := pr_nz hf
        obtain rfl := Option.some.inj hf
        subst hZ
        exact pw_rz hx hb hr hlocks hn hK hP hD hS (Nat.le_of_ble_eq_true rfl) (Nat.le_of_ble_eq_true rfl) dX4_hides_113
      · have hf := pr_f hf hc
        refine lv_iload_n hx hb dX4_hides_76 rfl (lv_at hl 3 rfl) ?_
        refine lv_if_eq (tgt := 104) hx hb dX4_hides_77 (by decide) (fun hc => ?_) (fun hc => ?_)
        · have hf := pr_t hf hc
          refine lv_iconst (v := (0 : Int32)) hx hb dX4_hides_104 (by decide) ?_
          refine lv_istore_n (lv' := [(3, .int (0 : Int32)), (0, .ref (bd 0)), (1, .int v1), (2, .int v2), (4, .int v4)]) hx hb dX4_hides_105 rfl hl (by decide) rfl (fun ls hl => ?_)
          refine lv_iinc (v := (v4 + (1 : Int32))) (lv' := [(4, .int (v4 + (1 : Int32))), (3, .int (0 : Int32)), (0, .ref (bd 0)), (1, .int v1), (2, .int v2)]) hx hb dX4_hides_106 hl (k := 4) rfl rfl (by decide) rfl (fun ls hl => ?_)
          refine lv_goto (tgt := 68) hx hb dX4_hides_109 (by decide) ?_
          exact ih68 (0 : Int32) (v4 + (1 : Int32)) H locs ls hP hD hS (lv_sub hl [2, 3, 4, 1, 0] rfl) hf
        · have hf := pr_f hf hc
          refine lv_aload_n hx hb dX4_hides_80 rfl (lv_at hl 0 rfl) ?_
          refine lv_iload_n hx hb dX4_hides_81 rfl (lv_at hl 2 rfl) ?_
          refine lv_iload hx hb dX4_hides_82 (lv_at hl 4 rfl) ?_
          obtain ⟨x84, hg84, hf⟩ := pr_b hf
          refine pw_cViW (b := bd 0) (As := [.int v2, .int v4]) (rest := []) ⟨hx, hb, hml, hown, hts⟩ (c_X4_isTrue (D := D) m_thrown m_states m_timerEvents m_transitions m_froms m_events m_variables m_relations m_numbers m_nexts m_sizes m_actions m_fired m_state m_time m_values m_runs m_dues m_emitted m_output m_ignored m_isCompiled m_classes m_numbersOf m_offsets m_useds m_tableSize m_owners m_isReached m_areApart v2 v4 hg84) (cwV 2 hts gX4_hides_X4_isTrue rfl rfl rfl (by decide +kernel) ⟨Nat.le_of_ble_eq_true rfl, Nat.le_of_ble_eq_true rfl⟩) 0 4 rfl rfl hK hP hD hS hA rfl hl.1 rfl (Nat.le_of_ble_eq_true rfl) dX4_hides_84 ⟨Nat.le_of_ble_eq_true rfl, Nat.le_of_ble_eq_true rfl⟩ (fun H locs hP hD hS => ?_)
          refine lv_if_eq (tgt := 100) hx hb dX4_hides_87 (by decide) (fun hc => ?_) (fun hc => ?_)
          · have hf := pr_t hf hc
            refine lv_iconst (v := (1 : Int32)) hx hb dX4_hides_100 (by decide) ?_
            refine lv_goto (tgt := 105) hx hb dX4_hides_101 (by decide) ?_
            refine lv_istore_n (lv' := [(3, .int (1 : Int32)), (0, .ref (bd 0)), (1, .int v1), (2, .int v2), (4, .int v4)]) hx hb dX4_hides_105 rfl hl (by decide) rfl (fun ls hl => ?_)
            refine lv_iinc (v := (v4 + (1 : Int32))) (lv' := [(4, .int (v4 + (1 : Int32))), (3, .int (1 : Int32)), (0, .ref (bd 0)), (1, .int v1), (2, .int v2)]) hx hb dX4_hides_106 hl (k := 4) rfl rfl (by decide) rfl (fun ls hl => ?_)
            refine lv_goto (tgt := 68) hx hb dX4_hides_109 (by decide) ?_
            exact ih68 (1 : Int32) (v4 + (1 : Int32)) H locs ls hP hD hS (lv_sub hl [2, 3, 4, 1, 0] rfl) hf
          · have hf := pr_f hf hc
            refine lv_aload_n hx hb dX4_hides_90 rfl (lv_at hl 0 rfl) ?_
            refine lv_iload_n hx hb dX4_hides_91 rfl (lv_at hl 1 rfl) ?_
            refine lv_iload hx hb dX4_hides_92 (lv_at hl 4 rfl) ?_
            obtain ⟨x94, hg94, hf⟩ := pr_b hf
            refine pw_cViW (b := bd 0) (As := [.int v1, .int v4]) (rest := []) ⟨hx, hb, hml, hown, hts⟩ (c_X4_isTrue (D := D) m_thrown m_states m_timerEvents m_transitions m_froms m_events m_variables m_relations m_numbers m_nexts m_sizes m_actions m_fired m_state m_time m_values m_runs m_dues m_emitted m_output m_ignored m_isCompiled m_classes m_numbersOf m_offsets m_useds m_tableSize m_owners m_isReached m_areApart v1 v4 hg94) (cwV 2 hts gX4_hides_X4_isTrue rfl rfl rfl (by decide +kernel) ⟨Nat.le_of_ble_eq_true rfl, Nat.le_of_ble_eq_true rfl⟩) 0 4 rfl rfl hK hP hD hS hA rfl hl.1 rfl (Nat.le_of_ble_eq_true rfl) dX4_hides_94 ⟨Nat.le_of_ble_eq_true rfl, Nat.le_of_ble_eq_true rfl⟩ (fun H locs hP hD hS => ?_)
            refine lv_if_eq (tgt := 104) hx hb dX4_hides_97 (by decide) (fun hc => ?_) (fun hc => ?_)
            · have hf := pr_t hf hc
              refine lv_iconst (v := (0 : Int32)) hx hb dX4_hides_104 (by decide) ?_
              refine lv_istore_n (lv' := [(3, .int (0 : Int32)), (0, .ref (bd 0)), (1, .int v1), (2, .int v2), (4, .int v4)]) hx hb dX4_hides_105 rfl hl (by decide) rfl (fun ls hl => ?_)
              refine lv_iinc (v := (v4 + (1 : Int32))) (lv' := [(4, .int (v4 + (1 : Int32))), (3, .int (0 : Int32)), (0, .ref (bd 0)), (1, .int v1), (2, .int v2)]) hx hb dX4_hides_106 hl (k := 4) rfl rfl (by decide) rfl (fun ls hl => ?_)
              refine lv_goto (tgt := 68) hx hb dX4_hides_109 (by decide) ?_
              exact ih68 (0 : Int32) (v4 + (1 : Int32)) H locs ls hP hD hS (lv_sub hl [2, 3, 4, 1, 0] rfl) hf
            · have hf := pr_f hf hc
              refine lv_iconst (v := (1 : Int32)) hx hb dX4_hides_100 (by decide) ?_
              refine lv_goto (tgt := 105) hx hb dX4_hides_101 (by decide) ?_
              refine lv_istore_n (lv' := [(3, .int (1 : Int32)), (0, .ref (bd 0)), (1, .int v1), (2, .int v2), (4, .int v4)]) hx hb dX4_hides_105 rfl hl (by decide) rfl (fun ls hl => ?_)
              refine lv_iinc (v := (v4 + (1 : Int32))) (lv' := [(4, .int (v4 + (1 : Int32))), (3, .int (1 : Int32)), (0, .ref (bd 0)), (1, .int v1), (2, .int v2)]) hx hb dX4_hides_106 hl (k := 4) rfl rfl (by decide) rfl (fun ls hl => ?_)
              refine lv_goto (tgt := 68) hx hb dX4_hides_109 (by decide) ?_
              exact ih68 (1 : Int32) (v4 + (1 : Int32)) H locs ls hP hD hS (lv_sub hl [2, 3, 4, 1, 0] rfl) hf
  unfold X4_hides at hf
  refine lv_aload_n hx hb dX4_hides_0 rfl (lv_at hl 0 rfl) ?_
  refine va_get (D := D) (ci := 4) (v := .ref (bd 2)) (C := RX4) (T := TX4) (N := 30) hx hb hts hiX4 hown hK hP 0 rfl rfl 4 (by decide) f17 (fun _ h9 => h9) rfl dX4_hides_1 ?_
  refine lv_iload_n hx hb dX4_hides_4 rfl (lv_at hl 1 rfl) ?_
  obtain ⟨hi5, hf⟩ := pr_in hf
  refine va_iald hx hb hK hP 2 1 rfl rfl hi5 dX4_hides_5 ?_
  refine lv_aload_n hx hb dX4_hides_6 rfl (lv_at hl 0 rfl) ?_
  refine va_get (D := D) (ci := 4) (v := .ref (bd 2)) (C := RX4) (T := TX4) (N := 30) hx hb hts hiX4 hown hK hP 0 rfl rfl 4 (by decide) f17 (fun _ h9 => h9) rfl dX4_hides_7 ?_
  refine lv_iload_n hx hb dX4_hides_10 rfl (lv_at hl 2 rfl) ?_
  obtain ⟨hi11, hf⟩ := pr_in hf
  refine va_iald hx hb hK hP 2 1 rfl rfl hi11 dX4_hides_11 ?_
  refine lv_icmp_ne (tgt := 30) hx hb dX4_hides_12 (by decide) (fun hc => ?_) (fun hc => ?_)
  · have hf := pr_f hf hc
    refine lv_iconst (v := (0 : Int32)) hx hb dX4_hides_30 (by decide) ?_
    obtain rfl := Option.some.inj hf
    subst hZ
    exact pw_rz hx hb hr hlocks (Or.inl rfl) hK hP hD hS (Nat.le_of_ble_eq_true rfl) (Nat.le_of_ble_eq_true rfl) dX4_hides_31
  · have hf := pr_t hf hc
    refine lv_aload_n hx hb dX4_hides_15 rfl (lv_at hl 0 rfl) ?_
    refine va_get (D := D) (ci := 4) (v := .ref (bd 3)) (C := RX4) (T := TX4) (N := 30) hx hb hts hiX4 hown hK hP 0 rfl rfl 5 (by decide) f20 (fun _ h9 => h9) rfl dX4_hides_16 ?_
    refine lv_iload_n hx hb dX4_hides_19 rfl (lv_at hl 1 rfl) ?_
    refine va_iald hx hb hK hP 3 2 rfl rfl hi5 dX4_hides_20 ?_
    refine lv_aload_n hx hb dX4_hides_21 rfl (lv_at hl 0 rfl) ?_
    refine va_get (D := D) (ci := 4) (v := .ref (bd 3)) (C := RX4) (T := TX4) (N := 30) hx hb hts hiX4 hown hK hP 0 rfl rfl 5 (by decide) f20 (fun _ h9 => h9) rfl dX4_hides_22 ?_
    refine lv_iload_n hx hb dX4_hides_25 rfl (lv_at hl 2 rfl) ?_
    refine va_iald hx hb hK hP 3 2 rfl rfl hi11 dX4_hides_26 ?_
    refine lv_icmp_eq (tgt := 32) hx hb dX4_hides_27 (by decide) (fun hc => ?_) (fun hc => ?_)
    · have hf := pr_t hf hc
      refine lv_aload_n hx hb dX4_hides_32 rfl (lv_at hl 0 rfl) ?_
      refine va_get (D := D) (ci := 4) (v := .ref (bd 4)) (C := RX4) (T := TX4) (N := 30) hx hb hts hiX4 hown hK hP 0 rfl rfl 6 (by decide) f23 (fun _ h9 => h9) rfl dX4_hides_33 ?_
      refine lv_iload_n hx hb dX4_hides_36 rfl (lv_at hl 1 rfl) ?_
      refine va_iald hx hb hK hP 4 3 rfl rfl hi5 dX4_hides_37 ?_
      refine lv_iconst (v := (-1 : Int32)) hx hb dX4_hides_38 (by decide) ?_
      refine lv_icmp_ne (tgt := 44) hx hb dX4_hides_39 (by decide) (fun hc => ?_) (fun hc => ?_)
      · have hf := pr_f hf hc
        refine lv_aload_n hx hb dX4_hides_44 rfl (lv_at hl 0 rfl) ?_
        refine va_get (D := D) (ci := 4) (v := .ref (bd 4)) (C := RX4) (T := TX4) (N := 30) hx hb hts hiX4 hown hK hP 0 rfl rfl 6 (by decide) f23 (fun _ h9 => h9) rfl dX4_hides_45 ?_
        refine lv_iload_n hx hb dX4_hides_48 rfl (lv_at hl 1 rfl) ?_
        refine va_iald hx hb hK hP 4 3 rfl rfl hi5 dX4_hides_49 ?_
        refine lv_aload_n hx hb dX4_hides_50 rfl (lv_at hl 0 rfl) ?_
        refine va_get (D := D) (ci := 4) (v := .ref (bd 4)) (C := RX4) (T := TX4) (N := 30) hx hb hts hiX4 hown hK hP 0 rfl rfl 6 (by decide) f23 (fun _ h9 => h9) rfl dX4_hides_51 ?_
        refine lv_iload_n hx hb dX4_hides_54 rfl (lv_at hl 2 rfl) ?_
        refine va_iald hx hb hK hP 4 3 rfl rfl hi11 dX4_hides_55 ?_
        refine lv_icmp_eq (tgt := 61) hx hb dX4_hides_56 (by decide) (fun hc => ?_) (fun hc => ?_)
        · have hf := pr_t hf hc
          refine lv_iconst (v := (1 : Int32)) hx hb dX4_hides_61 (by decide) ?_
          refine lv_istore_n (lv' := [(3, .int (1 : Int32)), (0, .ref (bd 0)), (1, .int v1), (2, .int v2)]) hx hb dX4_hides_62 rfl hl (by decide) rfl (fun ls hl => ?_)
          refine lv_sipush (v := (-1000 : Int32)) hx hb dX4_hides_63 (by decide) ?_
          refine lv_istore (lv' := [(4, .int (-1000 : Int32)), (3, .int (1 : Int32)), (0, .ref (bd 0)), (1, .int v1), (2, .int v2)]) hx hb dX4_hides_66 hl (by decide) rfl (fun ls hl => ?_)
          exact L68 fu (1 : Int32) (-1000 : Int32) H locs ls hP hD hS (lv_sub hl [2, 3, 4, 1, 0] rfl) hf
        · have hf := pr_f hf hc
          refine lv_iconst (v := (0 : Int32)) hx hb dX4_hides_59 (by decide) ?_
          obtain rfl := Option.some.inj hf
          subst hZ
          exact pw_rz hx hb hr hlocks (Or.inl rfl) hK hP hD hS (Nat.le_of_ble_eq_true rfl) (Nat.le_of_ble_eq_true rfl) dX4_hides_60
      · have hf := pr_t hf hc
        refine lv_iconst (v := (1 : Int32)) hx hb dX4_hides_42 (by decide) ?_
        obtain rfl := Option.some.inj hf
        subst hZ
        exact pw_rz hx hb hr hlocks (Or.inr rfl) hK hP hD hS (Nat.le_of_ble_eq_true rfl) (Nat.le_of_ble_eq_true rfl) dX4_hides_43
    · have hf := pr_f hf hc
      refine lv_iconst (v := (0 : Int32)) hx hb dX4_hides_30 (by decide) ?_
      obtain rfl := Option.some.inj hf
      subst hZ
      exact pw_rz hx hb hr hlocks (Or.inl rfl) hK hP hD hS (Nat.le_of_ble_eq_true rfl) (Nat.le_of_ble_eq_true rfl) dX4_hides_31
abbrev rmX4_isHidden : Room := { frames := 2, cells := 0, slots := 0, locals := 46 }
set_option maxHeartbeats 4000000 in
set_option maxRecDepth 100000 in
theorem c_X4_isHidden {l : Launch} {D : va_G} {bd : Nat → Nat} {cb : Nat → ClassId} (fu : Nat) (m_thrown m_states : Int32) (m_timerEvents : Nat → Int32) (m_transitions : Int32) (m_froms m_events m_variables m_relations m_numbers m_nexts m_sizes m_actions m_fired : Nat → Int32) (m_state : Int32) (m_time : Int64) (m_values m_runs : Nat → Int32) (m_dues : Nat → Int64) (m_emitted : Int32) (m_output : Nat → Int32) (m_ignored m_isCompiled m_classes : Int32) (m_numbersOf m_offsets m_useds : Nat → Int32) (m_tableSize : Int32) (m_owners m_isReached m_areApart : Nat → Int32) (v1 : Int32) {o : Int32 × Int32} (hf : X4_isHidden fu m_thrown m_transitions m_froms m_events m_variables m_relations m_numbers v1 = some o) : Ci l yX4_isHidden wsX4_isHidden rmX4_isHidden D (MT cb) (MW bd cb m_thrown m_states m_timerEvents m_transitions m_froms m_events m_variables m_relations m_numbers m_nexts m_sizes m_actions m_fired m_state m_time m_values m_runs m_dues m_emitted m_output m_ignored m_isCompiled m_classes m_numbersOf m_offsets m_useds m_tableSize m_owners m_isReached m_areApart) [.ref (bd 0), .int v1] o.1 (MW bd cb o.2 m_states m_timerEvents m_transitions m_froms m_events m_variables m_relations m_numbers m_nexts m_sizes m_actions m_fired m_state m_time m_values m_runs m_dues m_emitted m_output m_ignored m_isCompiled m_classes m_numbersOf m_offsets m_useds m_tableSize m_owners m_isReached m_areApart) := by
  intro sz
  refine pw_entry (Qc := fun A => pw_Qi D (MT cb) (MW bd cb o.2 m_states m_timerEvents m_transitions m_froms m_events m_variables m_relations m_numbers m_nexts m_sizes m_actions m_fired m_state m_time m_values m_runs m_dues m_emitted m_output m_ignored m_isCompiled m_classes m_numbersOf m_offsets m_useds m_tableSize m_owners m_isReached m_areApart) A o.1) (cc := cX4_isHidden) (maxL := 4) (ret := (some .boolean)) (by decide) rfl (Nat.le_of_ble_eq_true rfl) ?_ sz
  intro p e s m args below meth c A ls Z H locs hx hb hr hlocks hts hown hml hnm hK hP hD hS hA hl hZ
  have hown : s.vm.findClass RX4 = some m.cls := hown
  have hiX4 : ∀ w ∈ u_ws RX4 TX4 30, w ∈ wsX4_isHidden := by decide +kernel
  have f76 := hts (.fieldLink RX4 76 "ProtocolMachineModel" "thrown" "I") (by decide +kernel)
  have hl : lv_has ls 4 [(0, .ref (bd 0)), (1, .int v1)] := hl
  have L21 : ∀ n21 : Nat, ∀ (m_thrown v2 v3 : Int32) (H : Heap) (locs : List Loc) (ls : Array Slot), va_P D vwCl (MW bd cb m_thrown m_states m_timerEvents m_transitions m_froms m_events m_variables m_relations m_numbers m_nexts m_sizes m_actions m_fired m_state m_time m_values m_runs m_dues m_emitted m_output m_ignored m_isCompiled m_classes m_numbersOf m_offsets m_useds m_tableSize m_owners m_isReached m_areApart) H → va_D A (MW bd cb m_thrown m_states m_timerEvents m_transitions m_froms m_events m_variables m_relations m_numbers m_nexts m_sizes m_actions m_fired m_state m_time m_values m_runs m_dues m_emitted m_output m_ignored m_isCompiled m_classes m_numbersOf m_offsets m_useds m_tableSize m_owners m_isReached m_areApart) → va_S A s.heap H locs → lv_has ls 4 [(0, .ref (bd 0)), (1, .int v1), (2, .int v2), (3, .int v3)] → X4_isHidden_L21 fu m_froms m_events m_variables m_relations m_numbers v1 n21 m_thrown v2 v3 = some o → W p l e rmX4_isHidden s m args below meth c H locs 0 0 Z (F0 m 21 ls []) := by
    intro n21
    induction n21 with
    | zero =>
      intro m_thrown v2 v3 H locs ls hP hD hS hl hf
      exact pr_n hf
    | succ n21 ih21 =>
      intro m_thrown v2 v3 H locs ls hP hD hS hl hf
      replace hf : X4_isHidden_B21 fu m_froms m_events m_variables m_relations m_numbers v1 (X4_isHidden_L21 fu m_froms m_events m_variables m_relations m_numbers v1  n21) m_thrown v2 v3 = some o := hf
      unfold X4_isHidden_B21 at hf
      refine lv_iload_n hx hb dX4_isHidden_21 rfl (lv_at hl 3 rfl) ?_
      refine lv_iload_n hx hb dX4_isHidden_22 rfl (lv_at hl 1 rfl) ?_
      refine lv_icmp_ge (tgt := 58) hx hb dX4_isHidden_23 (by decide) (fun hc => ?_) (fun hc => ?_)
      · have hf := pr_t hf hc
        refine lv_iload_n hx hb dX4_isHidden_58 rfl (lv_at hl 2 rfl) ?_
        obtain ⟨hn, hf⟩ := pr_nz hf
        obtain rfl := Option.some.inj hf
        subst hZ
        exact pw_rz hx hb hr hlocks hn hK hP hD hS (Nat.le_of_ble_eq_true rfl) (Nat.le_of_ble_eq_true rfl) dX4_isHidden_59
      · have hf := pr_f hf hc
        refine lv_aload_n hx hb dX4_isHidden_26 rfl (lv_at hl 0 rfl) ?_
        refine va_get (D := D) (ci := 4) (v := .int m_thrown) (C := RX4) (T := TX4) (N := 30) hx hb hts hiX4 hown hK hP 0 rfl rfl 0 (by decide) f76 (fun _ h9 => h9) rfl dX4_isHidden_27 ?_
        refine lv_if_ne (tgt := 58) hx hb dX4_isHidden_30 (by decide) (fun hc => ?_) (fun hc => ?_)
        · have hf := pr_f hf hc
          refine lv_iload_n hx hb dX4_isHidden_58 rfl (lv_at hl 2 rfl) ?_
          obtain ⟨hn, hf⟩ := pr_nz hf
          obtain rfl := Option.some.inj hf
          subst hZ
          exact pw_rz hx hb hr hlocks hn hK hP hD hS (Nat.le_of_ble_eq_true rfl) (Nat.le_of_ble_eq_true rfl) dX4_isHidden_59
        · have hf := pr_t hf hc
          refine lv_iload_n hx hb dX4_isHidden_33 rfl (lv_at hl 2 rfl) ?_
          refine lv_if_ne (tgt := 46) hx hb dX4_isHidden_34 (by decide) (fun hc => ?_) (fun hc => ?_)
          · have hf := pr_f hf hc
            refine lv_iconst (v := (1 : Int32)) hx hb dX4_isHidden_46 (by decide) ?_
            refine lv_goto (tgt := 51) hx hb dX4_isHidden_47 (by decide) ?_
            refine lv_istore_n (lv' := [(2, .int (1 : Int32)), (0, .ref (bd 0)), (1, .int v1), (3, .int v3)]) hx hb dX4_isHidden_51 rfl hl (by decide) rfl (fun ls hl => ?_)
            refine lv_iinc (v := (v3 + (1 : Int32))) (lv' := [(3, .int (v3 + (1 : Int32))), (2, .int (1 : Int32)), (0, .ref (bd 0)), (1, .int v1)]) hx hb dX4_isHidden_52 hl (k := 3) rfl rfl (by decide) rfl (fun ls hl => ?_)
            refine lv_goto (tgt := 21) hx hb dX4_isHidden_55 (by decide) ?_
            exact ih21 m_thrown (1 : Int32) (v3 + (1 : Int32)) H locs ls hP hD hS (lv_sub hl [2, 3, 1, 0] rfl) hf
          · have hf := pr_t hf hc
            refine lv_aload_n hx hb dX4_isHidden_37 rfl (lv_at hl 0 rfl) ?_
            refine lv_iload_n hx hb dX4_isHidden_38 rfl (lv_at hl 3 rfl) ?_
            refine lv_iload_n hx hb dX4_isHidden_39 rfl (lv_at hl 1 rfl) ?_
            obtain ⟨x40, hg40, hf⟩ := pr_b hf
            refine pw_cViW (b := bd 0) (As := [.int v3, .int v1]) (rest := []) ⟨hx, hb, hml, hown, hts⟩ (c_X4_hides fu (D := D) m_thrown m_states m_timerEvents m_transitions m_froms m_events m_variables m_relations m_numbers m_nexts m_sizes m_actions m_fired m_state m_time m_values m_runs m_dues m_emitted m_output m_ignored m_isCompiled m_classes m_numbersOf m_offsets m_useds m_tableSize m_owners m_isReached m_areApart v3 v1 hg40) (cwV 2 hts gX4_isHidden_X4_hides rfl rfl rfl (by decide +kernel) ⟨Nat.le_of_ble_eq_true rfl, Nat.le_of_ble_eq_true rfl⟩) 0 4 rfl rfl hK hP hD hS hA rfl hl.1 rfl (Nat.le_of_ble_eq_true rfl) dX4_isHidden_40 ⟨Nat.le_of_ble_eq_true rfl, Nat.le_of_ble_eq_true rfl⟩ (fun H locs hP hD hS => ?_)
            refine lv_if_eq (tgt := 50) hx hb dX4_isHidden_43 (by decide) (fun hc => ?_) (fun hc => ?_)
            · have hf := pr_t hf hc
              refine lv_iconst (v := (0 : Int32)) hx hb dX4_isHidden_50 (by decide) ?_
              refine lv_istore_n (lv' := [(2, .int (0 : Int32)), (0, .ref (bd 0)), (1, .int v1), (3, .int v3)]) hx hb dX4_isHidden_51 rfl hl (by decide) rfl (fun ls hl => ?_)
              refine lv_iinc (v := (v3 + (1 : Int32))) (lv' := [(3, .int (v3 + (1 : Int32))), (2, .int (0 : Int32)), (0, .ref (bd 0)), (1, .int v1)]) hx hb dX4_isHidden_52 hl (k := 3) rfl rfl (by decide) rfl (fun ls hl => ?_)
              refine lv_goto (tgt := 21) hx hb dX4_isHidden_55 (by decide) ?_
              exact ih21 m_thrown (0 : Int32) (v3 + (1 : Int32)) H locs ls hP hD hS (lv_sub hl [2, 3, 1, 0] rfl) hf
            · have hf := pr_f hf hc
              refine lv_iconst (v := (1 : Int32)) hx hb dX4_isHidden_46 (by decide) ?_
              refine lv_goto (tgt := 51) hx hb dX4_isHidden_47 (by decide) ?_
              refine lv_istore_n (lv' := [(2, .int (1 : Int32)), (0, .ref (bd 0)), (1, .int v1), (3, .int v3)]) hx hb dX4_isHidden_51 rfl hl (by decide) rfl (fun ls hl => ?_)
              refine lv_iinc (v := (v3 + (1 : Int32))) (lv' := [(3, .int (v3 + (1 : Int32))), (2, .int (1 : Int32)), (0, .ref (bd 0)), (1, .int v1)]) hx hb dX4_isHidden_52 hl (k := 3) rfl rfl (by decide) rfl (fun ls hl => ?_)
              refine lv_goto (tgt := 21) hx hb dX4_isHidden_55 (by decide) ?_
              exact ih21 m_thrown (1 : Int32) (v3 + (1 : Int32)) H locs ls hP hD hS (lv_sub hl [2, 3, 1, 0] rfl) hf
  unfold X4_isHidden at hf
  refine lv_aload_n hx hb dX4_isHidden_0 rfl (lv_at hl 0 rfl) ?_
  refine lv_aload_n hx hb dX4_isHidden_1 rfl (lv_at hl 0 rfl) ?_
  refine lv_iload_n hx hb dX4_isHidden_2 rfl (lv_at hl 1 rfl) ?_
  obtain ⟨x3, hg3, hf⟩ := pr_b hf
  refine pw_cViW (b := bd 0) (As := [.int v1]) (rest := [.ref (bd 0)]) ⟨hx, hb, hml, hown, hts⟩ (c_X4_isTransition (D := D) m_thrown m_states m_timerEvents m_transitions m_froms m_events m_variables m_relations m_numbers m_nexts m_sizes m_actions m_fired m_state m_time m_values m_runs m_dues m_emitted m_output m_ignored m_isCompiled m_classes m_numbersOf m_offsets m_useds m_tableSize m_owners m_isReached m_areApart v1 hg3) (cwV 1 hts gX4_isHidden_X4_isTransition rfl rfl rfl (by decide +kernel) ⟨Nat.le_of_ble_eq_true rfl, Nat.le_of_ble_eq_true rfl⟩) 0 4 rfl rfl hK hP hD hS hA rfl hl.1 rfl (Nat.le_of_ble_eq_true rfl) dX4_isHidden_3 ⟨Nat.le_of_ble_eq_true rfl, Nat.le_of_ble_eq_true rfl⟩ (fun H locs hP hD hS => ?_)
  refine lv_if_eq (tgt := 13) hx hb dX4_isHidden_6 (by decide) (fun hc => ?_) (fun hc => ?_)
  · have hf := pr_t hf hc
    refine lv_iconst (v := (1 : Int32)) hx hb dX4_isHidden_13 (by decide) ?_
    refine va_put (D := D) (ci := 4) (v := .int (1 : Int32)) (ty := .int) (C := RX4) (T := TX4) (N := 30) hx hb hts hiX4 tyX4 tyX4_ok nmX4 hown hK hP hD hS 0 rfl rfl 0 (by decide) f76 (fun _ h9 => h9) rfl (by decide +kernel) rfl rfl (Nat.le_of_ble_eq_true rfl) dX4_isHidden_14 (fun H locs hP hD hS => ?_)
    have hP : va_P D vwCl (MW bd cb (1 : Int32) m_states m_timerEvents m_transitions m_froms m_events m_variables m_relations m_numbers m_nexts m_sizes m_actions m_fired m_state m_time m_values m_runs m_dues m_emitted m_output m_ignored m_isCompiled m_classes m_numbersOf m_offsets m_useds m_tableSize m_owners m_isReached m_areApart) H := hP
    have hD : va_D A (MW bd cb (1 : Int32) m_states m_timerEvents m_transitions m_froms m_events m_variables m_relations m_numbers m_nexts m_sizes m_actions m_fired m_state m_time m_values m_runs m_dues m_emitted m_output m_ignored m_isCompiled m_classes m_numbersOf m_offsets m_useds m_tableSize m_owners m_isReached m_areApart) := hD
    refine lv_iconst (v := (0 : Int32)) hx hb dX4_isHidden_17 (by decide) ?_
    refine lv_istore_n (lv' := [(2, .int (0 : Int32)), (0, .ref (bd 0)), (1, .int v1)]) hx hb dX4_isHidden_18 rfl hl (by decide) rfl (fun ls hl => ?_)
    refine lv_iconst (v := (0 : Int32)) hx hb dX4_isHidden_19 (by decide) ?_
    refine lv_istore_n (lv' := [(3, .int (0 : Int32)), (2, .int (0 : Int32)), (0, .ref (bd 0)), (1, .int v1)]) hx hb dX4_isHidden_20 rfl hl (by decide) rfl (fun ls hl => ?_)
    exact L21 fu (1 : Int32) (0 : Int32) (0 : Int32) H locs ls hP hD hS (lv_sub hl [2, 3, 1, 0] rfl) hf
  · have hf := pr_f hf hc
    refine lv_iconst (v := (0 : Int32)) hx hb dX4_isHidden_9 (by decide) ?_
    refine lv_goto (tgt := 14) hx hb dX4_isHidden_10 (by decide) ?_
    refine va_put (D := D) (ci := 4) (v := .int (0 : Int32)) (ty := .int) (C := RX4) (T := TX4) (N := 30) hx hb hts hiX4 tyX4 tyX4_ok nmX4 hown hK hP hD hS 0 rfl rfl 0 (by decide) f76 (fun _ h9 => h9) rfl (by decide +kernel) rfl rfl (Nat.le_of_ble_eq_true rfl) dX4_isHidden_14 (fun H locs hP hD hS => ?_)
    have hP : va_P D vwCl (MW bd cb (0 : Int32) m_states m_timerEvents m_transitions m_froms m_events m_variables m_relations m_numbers m_nexts m_sizes m_actions m_fired m_state m_time m_values m_runs m_dues m_emitted m_output m_ignored m_isCompiled m_classes m_numbersOf m_offsets m_useds m_tableSize m_owners m_isReached m_areApart) H := hP
    have hD : va_D A (MW bd cb (0 : Int32) m_states m_timerEvents m_transitions m_froms m_events m_variables m_relations m_numbers m_nexts m_sizes m_actions m_fired m_state m_time m_values m_runs m_dues m_emitted m_output m_ignored m_isCompiled m_classes m_numbersOf m_offsets m_useds m_tableSize m_owners m_isReached m_areApart) := hD
    refine lv_iconst (v := (0 : Int32)) hx hb dX4_isHidden_17 (by decide) ?_
    refine lv_istore_n (lv' := [(2, .int (0 : Int32)), (0, .ref (bd 0)), (1, .int v1)]) hx hb dX4_isHidden_18 rfl hl (by decide) rfl (fun ls hl => ?_)
    refine lv_iconst (v := (0 : Int32)) hx hb dX4_isHidden_19 (by decide) ?_
    refine lv_istore_n (lv' := [(3, .int (0 : Int32)), (2, .int (0 : Int32)), (0, .ref (bd 0)), (1, .int v1)]) hx hb dX4_isHidden_20 rfl hl (by decide) rfl (fun ls hl => ?_)
    exact L21 fu (0 : Int32) (0 : Int32) (0 : Int32) H locs ls hP hD hS (lv_sub hl [2, 3, 1, 0] rfl) hf
abbrev rmX4_restart : Room := { frames := 0, cells := 0, slots := 0, locals := 0 }
set_option maxHeartbeats 4000000 in
set_option maxRecDepth 100000 in
theorem c_X4_restart {l : Launch} {D : va_G} {bd : Nat → Nat} {cb : Nat → ClassId} (fu : Nat) (m_thrown m_states : Int32) (m_timerEvents : Nat → Int32) (m_transitions : Int32) (m_froms m_events m_variables m_relations m_numbers m_nexts m_sizes m_actions m_fired : Nat → Int32) (m_state : Int32) (m_time : Int64) (m_values m_runs : Nat → Int32) (m_dues : Nat → Int64) (m_emitted : Int32) (m_output : Nat → Int32) (m_ignored m_isCompiled m_classes : Int32) (m_numbersOf m_offsets m_useds : Nat → Int32) (m_tableSize : Int32) (m_owners m_isReached m_areApart : Nat → Int32) {o : Int64 × Int32 × (Nat → Int32) × Int32 × Int64 × (Nat → Int32) × (Nat → Int32) × Int32 × Int32} (hf : X4_restart fu m_thrown m_fired m_state m_time m_values m_runs m_emitted m_ignored = some o) : Cl l yX4_restart wsX4_restart rmX4_restart D (MT cb) (MW bd cb m_thrown m_states m_timerEvents m_transitions m_froms m_events m_variables m_relations m_numbers m_nexts m_sizes m_actions m_fired m_state m_time m_values m_runs m_dues m_emitted m_output m_ignored m_isCompiled m_classes m_numbersOf m_offsets m_useds m_tableSize m_owners m_isReached m_areApart) [.ref (bd 0)] o.1 (MW bd cb o.2.1 m_states m_timerEvents m_transitions m_froms m_events m_variables m_relations m_numbers m_nexts m_sizes m_actions o.2.2.1 o.2.2.2.1 o.2.2.2.2.1 o.2.2.2.2.2.1 o.2.2.2.2.2.2.1 m_dues o.2.2.2.2.2.2.2.1 m_output o.2.2.2.2.2.2.2.2 m_isCompiled m_classes m_numbersOf m_offsets m_useds m_tableSize m_owners m_isReached m_areApart) := by
  intro sz
  refine pw_entry (Qc := fun A => pw_Ql D (MT cb) (MW bd cb o.2.1 m_states m_timerEvents m_transitions m_froms m_events m_variables m_relations m_numbers m_nexts m_sizes m_actions o.2.2.1 o.2.2.2.1 o.2.2.2.2.1 o.2.2.2.2.2.1 o.2.2.2.2.2.2.1 m_dues o.2.2.2.2.2.2.2.1 m_output o.2.2.2.2.2.2.2.2 m_isCompiled m_classes m_numbersOf m_offsets m_useds m_tableSize m_owners m_isReached m_areApart) A o.1) (cc := cX4_restart) (maxL := 4) (ret := (some .long)) (by decide) rfl (Nat.le_of_ble_eq_true rfl) ?_ sz
  intro p e s m args below meth c A ls Z H locs hx hb hr hlocks hts hown hml hnm hK hP hD hS hA hl hZ
  have hown : s.vm.findClass RX4 = some m.cls := hown
  have hiX4 : ∀ w ∈ u_ws RX4 TX4 30, w ∈ wsX4_restart := by decide +kernel
  have f114 := hts (.fieldLink RX4 114 "ProtocolMachineModel" "time" "J") (by decide +kernel)
  have f118 := hts (.fieldLink RX4 118 "ProtocolMachineModel" "state" "I") (by decide +kernel)
  have f121 := hts (.fieldLink RX4 121 "ProtocolMachineModel" "emitted" "I") (by decide +kernel)
  have f124 := hts (.fieldLink RX4 124 "ProtocolMachineModel" "ignored" "I") (by decide +kernel)
  have f41 := hts (.fieldLink RX4 41 "ProtocolMachineModel" "fired" "[I") (by decide +kernel)
  have f44 := hts (.fieldLink RX4 44 "ProtocolMachineModel" "values" "[I") (by decide +kernel)
  have f47 := hts (.fieldLink RX4 47 "ProtocolMachineModel" "runs" "[Z") (by decide +kernel)
  have f76 := hts (.fieldLink RX4 76 "ProtocolMachineModel" "thrown" "I") (by decide +kernel)
  have hl : lv_has ls 4 [(0, .ref (bd 0))] := hl
  have B81 : ∀ (m_thrown : Int32) (m_fired : Nat → Int32) (m_state : Int32) (m_time : Int64) (m_values m_runs : Nat → Int32) (v1 : Int64) (H : Heap) (locs : List Loc) (ls : Array Slot), va_P D vwCl (MW bd cb m_thrown m_states m_timerEvents m_transitions m_froms m_events m_variables m_relations m_numbers m_nexts m_sizes m_actions m_fired m_state m_time m_values m_runs m_dues m_emitted m_output m_ignored m_isCompiled m_classes m_numbersOf m_offsets m_useds m_tableSize m_owners m_isReached m_areApart) H → va_D A (MW bd cb m_thrown m_states m_timerEvents m_transitions m_froms m_events m_variables m_relations m_numbers m_nexts m_sizes m_actions m_fired m_state m_time m_values m_runs m_dues m_emitted m_output m_ignored m_isCompiled m_classes m_numbersOf m_offsets m_useds m_tableSize m_owners m_isReached m_areApart) → va_S A s.heap H locs → lv_has ls 4 [(0, .ref (bd 0)), (1, .long v1)] → X4_restart_B81 m_thrown m_fired m_state m_time m_values m_runs v1 = some o → W p l e rmX4_restart s m args below meth c H locs 0 0 Z (F0 m 81 ls []) := by
    intro m_thrown m_fired m_state m_time m_values m_runs v1 H locs ls hP hD hS hl hf
    unfold X4_restart_B81 at hf
    refine lv_aload_n hx hb dX4_restart_81 rfl (lv_at hl 0 rfl) ?_
    refine lv_iconst (v := (0 : Int32)) hx hb dX4_restart_82 (by decide) ?_
    refine va_put (D := D) (ci := 4) (v := .int (0 : Int32)) (ty := .int) (C := RX4) (T := TX4) (N := 30) hx hb hts hiX4 tyX4 tyX4_ok nmX4 hown hK hP hD hS 0 rfl rfl 18 (by decide) f121 (fun _ h9 => h9) rfl (by decide +kernel) rfl rfl (Nat.le_of_ble_eq_true rfl) dX4_restart_83 (fun H locs hP hD hS => ?_)
    have hP : va_P D vwCl (MW bd cb m_thrown m_states m_timerEvents m_transitions m_froms m_events m_variables m_relations m_numbers m_nexts m_sizes m_actions m_fired m_state m_time m_values m_runs m_dues (0 : Int32) m_output m_ignored m_isCompiled m_classes m_numbersOf m_offsets m_useds m_tableSize m_owners m_isReached m_areApart) H := hP
    have hD : va_D A (MW bd cb m_thrown m_states m_timerEvents m_transitions m_froms m_events m_variables m_relations m_numbers m_nexts m_sizes m_actions m_fired m_state m_time m_values m_runs m_dues (0 : Int32) m_output m_ignored m_isCompiled m_classes m_numbersOf m_offsets m_useds m_tableSize m_owners m_isReached m_areApart) := hD
    refine lv_aload_n hx hb dX4_restart_86 rfl (lv_at hl 0 rfl) ?_
    refine lv_iconst (v := (0 : Int32)) hx hb dX4_restart_87 (by decide) ?_
    refine va_put (D := D) (ci := 4) (v := .int (0 : Int32)) (ty := .int) (C := RX4) (T := TX4) (N := 30) hx hb hts hiX4 tyX4 tyX4_ok nmX4 hown hK hP hD hS 0 rfl rfl 20 (by decide) f124 (fun _ h9 => h9) rfl (by decide +kernel) rfl rfl (Nat.le_of_ble_eq_true rfl) dX4_restart_88 (fun H locs hP hD hS => ?_)
    have hP : va_P D vwCl (MW bd cb m_thrown m_states m_timerEvents m_transitions m_froms m_events m_variables m_relations m_numbers m_nexts m_sizes m_actions m_fired m_state m_time m_values m_runs m_dues (0 : Int32) m_output (0 : Int32) m_isCompiled m_classes m_numbersOf m_offsets m_useds m_tableSize m_owners m_isReached m_areApart) H := hP
    have hD : va_D A (MW bd cb m_thrown m_states m_timerEvents m_transitions m_froms m_events m_variables m_relations m_numbers m_nexts m_sizes m_actions m_fired m_state m_time m_values m_runs m_dues (0 : Int32) m_output (0 : Int32) m_isCompiled m_classes m_numbersOf m_offsets m_useds m_tableSize m_owners m_isReached m_areApart) := hD
    refine lv_lload_n hx hb dX4_restart_91 rfl (lv_at hl 1 rfl) ?_
    obtain rfl := Option.some.inj hf
    subst hZ
    exact pw_rl hx hb hr hlocks hK hP hD hS (Nat.le_of_ble_eq_true rfl) (Nat.le_of_ble_eq_true rfl) dX4_restart_92
  have L62 : ∀ n62 : Nat, ∀ (m_thrown : Int32) (m_fired : Nat → Int32) (m_state : Int32) (m_time : Int64) (m_values m_runs : Nat → Int32) (v1 : Int64) (v3 : Int32) (H : Heap) (locs : List Loc) (ls : Array Slot), va_P D vwCl (MW bd cb m_thrown m_states m_timerEvents m_transitions m_froms m_events m_variables m_relations m_numbers m_nexts m_sizes m_actions m_fired m_state m_time m_values m_runs m_dues m_emitted m_output m_ignored m_isCompiled m_classes m_numbersOf m_offsets m_useds m_tableSize m_owners m_isReached m_areApart) H → va_D A (MW bd cb m_thrown m_states m_timerEvents m_transitions m_froms m_events m_variables m_relations m_numbers m_nexts m_sizes m_actions m_fired m_state m_time m_values m_runs m_dues m_emitted m_output m_ignored m_isCompiled m_classes m_numbersOf m_offsets m_useds m_tableSize m_owners m_isReached m_areApart) → va_S A s.heap H locs → lv_has ls 4 [(0, .ref (bd 0)), (1, .long v1), (3, .int v3)] → X4_restart_L62 n62 m_thrown m_fired m_state m_time m_values m_runs v1 v3 = some o → W p l e rmX4_restart s m args below meth c H locs 0 0 Z (F0 m 62 ls []) := by
    intro n62
    induction n62 with
    | zero =>
      intro m_thrown m_fired m_state m_time m_values m_runs v1 v3 H locs ls hP hD hS hl hf
      exact pr_n hf
    | succ n62 ih62 =>
      intro m_thrown m_fired m_state m_time m_values m_runs v1 v3 H locs ls hP hD hS hl hf
      replace hf : X4_restart_B62  (X4_restart_L62   n62) m_thrown m_fired m_state m_time m_values m_runs v1 v3 = some o := hf
      unfold X4_restart_B62 at hf
      refine lv_iload_n hx hb dX4_restart_62 rfl (lv_at hl 2 rfl) ?_
      refine lv_bipush (v := (40 : Int32)) hx hb dX4_restart_63 (by decide) ?_
      refine lv_icmp_ge (tgt := 81) hx hb dX4_restart_65 (by decide) (fun hc => ?_) (fun hc => ?_)
      · have hf := pr_t hf hc
        exact B81 m_thrown m_fired m_state m_time m_values m_runs v1 H locs ls hP hD hS (lv_sub hl [0, 1] rfl) hf
      · have hf := pr_f hf hc
        refine lv_aload_n hx hb dX4_restart_68 rfl (lv_at hl 0 rfl) ?_
        refine va_get (D := D) (ci := 4) (v := .ref (bd 10)) (C := RX4) (T := TX4) (N := 30) hx hb hts hiX4 hown hK hP 0 rfl rfl 12 (by decide) f41 (fun _ h9 => h9) rfl dX4_restart_69 ?_
        refine lv_iload_n hx hb dX4_restart_72 rfl (lv_at hl 2 rfl) ?_
        refine lv_iconst (v := (0 : Int32)) hx hb dX4_restart_73 (by decide) ?_
        obtain ⟨hi74, hf⟩ := pr_in hf
        refine va_iast hx hb hK hP hD hS 10 9 rfl rfl hi74 dX4_restart_74 (fun H locs hP hD hS => ?_)
        have hP : va_P D vwCl (MW bd cb m_thrown m_states m_timerEvents m_transitions m_froms m_events m_variables m_relations m_numbers m_nexts m_sizes m_actions (upd m_fired v3.toNatClampNeg (0 : Int32)) m_state m_time m_values m_runs m_dues m_emitted m_output m_ignored m_isCompiled m_classes m_numbersOf m_offsets m_useds m_tableSize m_owners m_isReached m_areApart) H := hP
        have hD : va_D A (MW bd cb m_thrown m_states m_timerEvents m_transitions m_froms m_events m_variables m_relations m_numbers m_nexts m_sizes m_actions (upd m_fired v3.toNatClampNeg (0 : Int32)) m_state m_time m_values m_runs m_dues m_emitted m_output m_ignored m_isCompiled m_classes m_numbersOf m_offsets m_useds m_tableSize m_owners m_isReached m_areApart) := hD
        refine lv_iinc (v := (v3 + (1 : Int32))) (lv' := [(3, .int (v3 + (1 : Int32))), (0, .ref (bd 0)), (1, .long v1)]) hx hb dX4_restart_75 hl (k := 2) rfl rfl (by decide) rfl (fun ls hl => ?_)
        refine lv_goto (tgt := 62) hx hb dX4_restart_78 (by decide) ?_
        exact ih62 m_thrown (upd m_fired v3.toNatClampNeg (0 : Int32)) m_state m_time m_values m_runs v1 (v3 + (1 : Int32)) H locs ls hP hD hS (lv_sub hl [1, 2, 0] rfl) hf
  have L42 : ∀ n42 : Nat, ∀ (m_thrown m_state : Int32) (m_time : Int64) (m_values m_runs : Nat → Int32) (v1 : Int64) (v3 : Int32) (H : Heap) (locs : List Loc) (ls : Array Slot), va_P D vwCl (MW bd cb m_thrown m_states m_timerEvents m_transitions m_froms m_events m_variables m_relations m_numbers m_nexts m_sizes m_actions m_fired m_state m_time m_values m_runs m_dues m_emitted m_output m_ignored m_isCompiled m_classes m_numbersOf m_offsets m_useds m_tableSize m_owners m_isReached m_areApart) H → va_D A (MW bd cb m_thrown m_states m_timerEvents m_transitions m_froms m_events m_variables m_relations m_numbers m_nexts m_sizes m_actions m_fired m_state m_time m_values m_runs m_dues m_emitted m_output m_ignored m_isCompiled m_classes m_numbersOf m_offsets m_useds m_tableSize m_owners m_isReached m_areApart) → va_S A s.heap H locs → lv_has ls 4 [(0, .ref (bd 0)), (1, .long v1), (3, .int v3)] → X4_restart_L42 fu m_fired n42 m_thrown m_state m_time m_values m_runs v1 v3 = some o → W p l e rmX4_restart s m args below meth c H locs 0 0 Z (F0 m 42 ls []) := by
    intro n42
    induction n42 with
    | zero =>
      intro m_thrown m_state m_time m_values m_runs v1 v3 H locs ls hP hD hS hl hf
      exact pr_n hf
    | succ n42 ih42 =>
      intro m_thrown m_state m_time m_values m_runs v1 v3 H locs ls hP hD hS hl hf
      replace hf : X4_restart_B42 fu m_fired (X4_restart_L42 fu m_fired  n42) m_thrown m_state m_time m_values m_runs v1 v3 = some o := hf
      unfold X4_restart_B42 at hf
      refine lv_iload_n hx hb dX4_restart_42 rfl (lv_at hl 2 rfl) ?_
      refine lv_iconst (v := (4 : Int32)) hx hb dX4_restart_43 (by decide) ?_
      refine lv_icmp_ge (tgt := 60) hx hb dX4_restart_44 (by decide) (fun hc => ?_) (fun hc => ?_)
      · have hf := pr_t hf hc
        refine lv_iconst (v := (0 : Int32)) hx hb dX4_restart_60 (by decide) ?_
        refine lv_istore_n (lv' := [(3, .int (0 : Int32)), (0, .ref (bd 0)), (1, .long v1)]) hx hb dX4_restart_61 rfl hl (by decide) rfl (fun ls hl => ?_)
        exact L62 fu m_thrown m_fired m_state m_time m_values m_runs v1 (0 : Int32) H locs ls hP hD hS (lv_sub hl [1, 2, 0] rfl) hf
      · have hf := pr_f hf hc
        refine lv_aload_n hx hb dX4_restart_47 rfl (lv_at hl 0 rfl) ?_
        refine va_get (D := D) (ci := 4) (v := .ref (bd 12)) (C := RX4) (T := TX4) (N := 30) hx hb hts hiX4 hown hK hP 0 rfl rfl 16 (by decide) f47 (fun _ h9 => h9) rfl dX4_restart_48 ?_
        refine lv_iload_n hx hb dX4_restart_51 rfl (lv_at hl 2 rfl) ?_
        refine lv_iconst (v := (0 : Int32)) hx hb dX4_restart_52 (by decide) ?_
        obtain ⟨hi53, hf⟩ := pr_in hf
        refine va_zast hx hb hK hP hD hS 12 11 rfl rfl hi53 dX4_restart_53 (fun H locs hP hD hS => ?_)
        have hP : va_P D vwCl (MW bd cb m_thrown m_states m_timerEvents m_transitions m_froms m_events m_variables m_relations m_numbers m_nexts m_sizes m_actions m_fired m_state m_time m_values (upd m_runs v3.toNatClampNeg (0 : Int32)) m_dues m_emitted m_output m_ignored m_isCompiled m_classes m_numbersOf m_offsets m_useds m_tableSize m_owners m_isReached m_areApart) H := hP
        have hD : va_D A (MW bd cb m_thrown m_states m_timerEvents m_transitions m_froms m_events m_variables m_relations m_numbers m_nexts m_sizes m_actions m_fired m_state m_time m_values (upd m_runs v3.toNatClampNeg (0 : Int32)) m_dues m_emitted m_output m_ignored m_isCompiled m_classes m_numbersOf m_offsets m_useds m_tableSize m_owners m_isReached m_areApart) := hD
        refine lv_iinc (v := (v3 + (1 : Int32))) (lv' := [(3, .int (v3 + (1 : Int32))), (0, .ref (bd 0)), (1, .long v1)]) hx hb dX4_restart_54 hl (k := 2) rfl rfl (by decide) rfl (fun ls hl => ?_)
        refine lv_goto (tgt := 42) hx hb dX4_restart_57 (by decide) ?_
        exact ih42 m_thrown m_state m_time m_values (upd m_runs v3.toNatClampNeg (0 : Int32)) v1 (v3 + (1 : Int32)) H locs ls hP hD hS (lv_sub hl [1, 2, 0] rfl) hf
  have L22 : ∀ n22 : Nat, ∀ (m_thrown m_state : Int32) (m_time : Int64) (m_values : Nat → Int32) (v1 : Int64) (v3 : Int32) (H : Heap) (locs : List Loc) (ls : Array Slot), va_P D vwCl (MW bd cb m_thrown m_states m_timerEvents m_transitions m_froms m_events m_variables m_relations m_numbers m_nexts m_sizes m_actions m_fired m_state m_time m_values m_runs m_dues m_emitted m_output m_ignored m_isCompiled m_classes m_numbersOf m_offsets m_useds m_tableSize m_owners m_isReached m_areApart) H → va_D A (MW bd cb m_thrown m_states m_timerEvents m_transitions m_froms m_events m_variables m_relations m_numbers m_nexts m_sizes m_actions m_fired m_state m_time m_values m_runs m_dues m_emitted m_output m_ignored m_isCompiled m_classes m_numbersOf m_offsets m_useds m_tableSize m_owners m_isReached m_areApart) → va_S A s.heap H locs → lv_has ls 4 [(0, .ref (bd 0)), (1, .long v1), (3, .int v3)] → X4_restart_L22 fu m_fired m_runs n22 m_thrown m_state m_time m_values v1 v3 = some o → W p l e rmX4_restart s m args below meth c H locs 0 0 Z (F0 m 22 ls []) := by
    intro n22
    induction n22 with
    | zero =>
      intro m_thrown m_state m_time m_values v1 v3 H locs ls hP hD hS hl hf
      exact pr_n hf
    | succ n22 ih22 =>
      intro m_thrown m_state m_time m_values v1 v3 H locs ls hP hD hS hl hf
      replace hf : X4_restart_B22 fu m_fired m_runs (X4_restart_L22 fu m_fired m_runs  n22) m_thrown m_state m_time m_values v1 v3 = some o := hf
      unfold X4_restart_B22 at hf
      refine lv_iload_n hx hb dX4_restart_22 rfl (lv_at hl 2 rfl) ?_
      refine lv_iconst (v := (3 : Int32)) hx hb dX4_restart_23 (by decide) ?_
      refine lv_icmp_ge (tgt := 40) hx hb dX4_restart_24 (by decide) (fun hc => ?_) (fun hc => ?_)
      · have hf := pr_t hf hc
        refine lv_iconst (v := (0 : Int32)) hx hb dX4_restart_40 (by decide) ?_
        refine lv_istore_n (lv' := [(3, .int (0 : Int32)), (0, .ref (bd 0)), (1, .long v1)]) hx hb dX4_restart_41 rfl hl (by decide) rfl (fun ls hl => ?_)
        exact L42 fu m_thrown m_state m_time m_values m_runs v1 (0 : Int32) H locs ls hP hD hS (lv_sub hl [1, 2, 0] rfl) hf
      · have hf := pr_f hf hc
        refine lv_aload_n hx hb dX4_restart_27 rfl (lv_at hl 0 rfl) ?_
        refine va_get (D := D) (ci := 4) (v := .ref (bd 11)) (C := RX4) (T := TX4) (N := 30) hx hb hts hiX4 hown hK hP 0 rfl rfl 15 (by decide) f44 (fun _ h9 => h9) rfl dX4_restart_28 ?_
        refine lv_iload_n hx hb dX4_restart_31 rfl (lv_at hl 2 rfl) ?_
        refine lv_iconst (v := (0 : Int32)) hx hb dX4_restart_32 (by decide) ?_
        obtain ⟨hi33, hf⟩ := pr_in hf
        refine va_iast hx hb hK hP hD hS 11 10 rfl rfl hi33 dX4_restart_33 (fun H locs hP hD hS => ?_)
        have hP : va_P D vwCl (MW bd cb m_thrown m_states m_timerEvents m_transitions m_froms m_events m_variables m_relations m_numbers m_nexts m_sizes m_actions m_fired m_state m_time (upd m_values v3.toNatClampNeg (0 : Int32)) m_runs m_dues m_emitted m_output m_ignored m_isCompiled m_classes m_numbersOf m_offsets m_useds m_tableSize m_owners m_isReached m_areApart) H := hP
        have hD : va_D A (MW bd cb m_thrown m_states m_timerEvents m_transitions m_froms m_events m_variables m_relations m_numbers m_nexts m_sizes m_actions m_fired m_state m_time (upd m_values v3.toNatClampNeg (0 : Int32)) m_runs m_dues m_emitted m_output m_ignored m_isCompiled m_classes m_numbersOf m_offsets m_useds m_tableSize m_owners m_isReached m_areApart) := hD
        refine lv_iinc (v := (v3 + (1 : Int32))) (lv' := [(3, .int (v3 + (1 : Int32))), (0, .ref (bd 0)), (1, .long v1)]) hx hb dX4_restart_34 hl (k := 2) rfl rfl (by decide) rfl (fun ls hl => ?_)
        refine lv_goto (tgt := 22) hx hb dX4_restart_37 (by decide) ?_
        exact ih22 m_thrown m_state m_time (upd m_values v3.toNatClampNeg (0 : Int32)) v1 (v3 + (1 : Int32)) H locs ls hP hD hS (lv_sub hl [1, 2, 0] rfl) hf
  unfold X4_restart at hf
  refine lv_aload_n hx hb dX4_restart_0 rfl (lv_at hl 0 rfl) ?_
  refine lv_iconst (v := (0 : Int32)) hx hb dX4_restart_1 (by decide) ?_
  refine va_put (D := D) (ci := 4) (v := .int (0 : Int32)) (ty := .int) (C := RX4) (T := TX4) (N := 30) hx hb hts hiX4 tyX4 tyX4_ok nmX4 hown hK hP hD hS 0 rfl rfl 0 (by decide) f76 (fun _ h9 => h9) rfl (by decide +kernel) rfl rfl (Nat.le_of_ble_eq_true rfl) dX4_restart_2 (fun H locs hP hD hS => ?_)
  have hP : va_P D vwCl (MW bd cb (0 : Int32) m_states m_timerEvents m_transitions m_froms m_events m_variables m_relations m_numbers m_nexts m_sizes m_actions m_fired m_state m_time m_values m_runs m_dues m_emitted m_output m_ignored m_isCompiled m_classes m_numbersOf m_offsets m_useds m_tableSize m_owners m_isReached m_areApart) H := hP
  have hD : va_D A (MW bd cb (0 : Int32) m_states m_timerEvents m_transitions m_froms m_events m_variables m_relations m_numbers m_nexts m_sizes m_actions m_fired m_state m_time m_values m_runs m_dues m_emitted m_output m_ignored m_isCompiled m_classes m_numbersOf m_offsets m_useds m_tableSize m_owners m_isReached m_areApart) := hD
  refine lv_aload_n hx hb dX4_restart_5 rfl (lv_at hl 0 rfl) ?_
  refine va_get (D := D) (ci := 4) (v := .long m_time) (C := RX4) (T := TX4) (N := 30) hx hb hts hiX4 hown hK hP 0 rfl rfl 14 (by decide) f114 (fun _ h9 => h9) rfl dX4_restart_6 ?_
  refine lv_lstore_n (lv' := [(1, .long m_time), (0, .ref (bd 0))]) hx hb dX4_restart_9 rfl hl (by decide) rfl (fun ls hl => ?_)
  refine lv_aload_n hx hb dX4_restart_10 rfl (lv_at hl 1 rfl) ?_
  refine lv_lconst (v := (0 : Int64)) hx hb dX4_restart_11 (by decide) ?_
  refine va_put (D := D) (ci := 4) (v := .long (0 : Int64)) (ty := .long) (C := RX4) (T := TX4) (N := 30) hx hb hts hiX4 tyX4 tyX4_ok nmX4 hown hK hP hD hS 0 rfl rfl 14 (by decide) f114 (fun _ h9 => h9) rfl (by decide +kernel) rfl rfl (Nat.le_of_ble_eq_true rfl) dX4_restart_12 (fun H locs hP hD hS => ?_)
  have hP : va_P D vwCl (MW bd cb (0 : Int32) m_states m_timerEvents m_transitions m_froms m_events m_variables m_relations m_numbers m_nexts m_sizes m_actions m_fired m_state (0 : Int64) m_values m_runs m_dues m_emitted m_output m_ignored m_isCompiled m_classes m_numbersOf m_offsets m_useds m_tableSize m_owners m_isReached m_areApart) H := hP
  have hD : va_D A (MW bd cb (0 : Int32) m_states m_timerEvents m_transitions m_froms m_events m_variables m_relations m_numbers m_nexts m_sizes m_actions m_fired m_state (0 : Int64) m_values m_runs m_dues m_emitted m_output m_ignored m_isCompiled m_classes m_numbersOf m_offsets m_useds m_tableSize m_owners m_isReached m_areApart) := hD
  refine lv_aload_n hx hb dX4_restart_15 rfl (lv_at hl 1 rfl) ?_
  refine lv_iconst (v := (0 : Int32)) hx hb dX4_restart_16 (by decide) ?_
  refine va_put (D := D) (ci := 4) (v := .int (0 : Int32)) (ty := .int) (C := RX4) (T := TX4) (N := 30) hx hb hts hiX4 tyX4 tyX4_ok nmX4 hown hK hP hD hS 0 rfl rfl 13 (by decide) f118 (fun _ h9 => h9) rfl (by decide +kernel) rfl rfl (Nat.le_of_ble_eq_true rfl) dX4_restart_17 (fun H locs hP hD hS => ?_)
  have hP : va_P D vwCl (MW bd cb (0 : Int32) m_states m_timerEvents m_transitions m_froms m_events m_variables m_relations m_numbers m_nexts m_sizes m_actions m_fired (0 : Int32) (0 : Int64) m_values m_runs m_dues m_emitted m_output m_ignored m_isCompiled m_classes m_numbersOf m_offsets m_useds m_tableSize m_owners m_isReached m_areApart) H := hP
  have hD : va_D A (MW bd cb (0 : Int32) m_states m_timerEvents m_transitions m_froms m_events m_variables m_relations m_numbers m_nexts m_sizes m_actions m_fired (0 : Int32) (0 : Int64) m_values m_runs m_dues m_emitted m_output m_ignored m_isCompiled m_classes m_numbersOf m_offsets m_useds m_tableSize m_owners m_isReached m_areApart) := hD
  refine lv_iconst (v := (0 : Int32)) hx hb dX4_restart_20 (by decide) ?_
  refine lv_istore_n (lv' := [(3, .int (0 : Int32)), (1, .long m_time), (0, .ref (bd 0))]) hx hb dX4_restart_21 rfl hl (by decide) rfl (fun ls hl => ?_)
  exact L22 fu (0 : Int32) (0 : Int32) (0 : Int64) m_values m_time (0 : Int32) H locs ls hP hD hS (lv_sub hl [2, 1, 0] rfl) hf
abbrev rmX4_act : Room := { frames := 1, cells := 0, slots := 0, locals := 21 }
set_option maxHeartbeats 4000000 in
set_option maxRecDepth 100000 in
theorem c_X4_act {l : Launch} {D : va_G} {bd : Nat → Nat} {cb : Nat → ClassId} (m_thrown m_states : Int32) (m_timerEvents : Nat → Int32) (m_transitions : Int32) (m_froms m_events m_variables m_relations m_numbers m_nexts m_sizes m_actions m_fired : Nat → Int32) (m_state : Int32) (m_time : Int64) (m_values m_runs : Nat → Int32) (m_dues : Nat → Int64) (m_emitted : Int32) (m_output : Nat → Int32) (m_ignored m_isCompiled m_classes : Int32) (m_numbersOf m_offsets m_useds : Nat → Int32) (m_tableSize : Int32) (m_owners m_isReached m_areApart : Nat → Int32) (v1 v2 v3 : Int32) {o : (Nat → Int32) × (Nat → Int32) × (Nat → Int64) × Int32 × (Nat → Int32)} (hf : X4_act m_time m_values m_runs m_dues m_emitted m_output v1 v2 v3 = some o) : Cv l yX4_act wsX4_act rmX4_act D (MT cb) (MW bd cb m_thrown m_states m_timerEvents m_transitions m_froms m_events m_variables m_relations m_numbers m_nexts m_sizes m_actions m_fired m_state m_time m_values m_runs m_dues m_emitted m_output m_ignored m_isCompiled m_classes m_numbersOf m_offsets m_useds m_tableSize m_owners m_isReached m_areApart) [.ref (bd 0), .int v1, .int v2, .int v3] (MW bd cb m_thrown m_states m_timerEvents m_transitions m_froms m_events m_variables m_relations m_numbers m_nexts m_sizes m_actions m_fired m_state m_time o.1 o.2.1 o.2.2.1 o.2.2.2.1 o.2.2.2.2 m_ignored m_isCompiled m_classes m_numbersOf m_offsets m_useds m_tableSize m_owners m_isReached m_areApart) := by
  intro sz
  refine pw_entry (Qc := fun A => pw_Qv D (MT cb) (MW bd cb m_thrown m_states m_timerEvents m_transitions m_froms m_events m_variables m_relations m_numbers m_nexts m_sizes m_actions m_fired m_state m_time o.1 o.2.1 o.2.2.1 o.2.2.2.1 o.2.2.2.2 m_ignored m_isCompiled m_classes m_numbersOf m_offsets m_useds m_tableSize m_owners m_isReached m_areApart) A) (cc := cX4_act) (maxL := 4) (ret := none) (by decide) rfl (Nat.le_of_ble_eq_true rfl) ?_ sz
  intro p e s m args below meth c A ls Z H locs hx hb hr hlocks hts hown hml hnm hK hP hD hS hA hl hZ
  have hown : s.vm.findClass RX4 = some m.cls := hown
  have hiX4 : ∀ w ∈ u_ws RX4 TX4 30, w ∈ wsX4_act := by decide +kernel
  have f114 := hts (.fieldLink RX4 114 "ProtocolMachineModel" "time" "J") (by decide +kernel)
  have f121 := hts (.fieldLink RX4 121 "ProtocolMachineModel" "emitted" "I") (by decide +kernel)
  have f44 := hts (.fieldLink RX4 44 "ProtocolMachineModel" "values" "[I") (by decide +kernel)
  have f47 := hts (.fieldLink RX4 47 "ProtocolMachineModel" "runs" "[Z") (by decide +kernel)
  have f51 := hts (.fieldLink RX4 51 "ProtocolMachineModel" "dues" "[J") (by decide +kernel)
  have f55 := hts (.fieldLink RX4 55 "ProtocolMachineModel" "output" "[I") (by decide +kernel)
  have mc_max := hts (.code Lib.Math.max.name Lib.Math.max.code 2 (some .int)) (by decide +kernel)
  have mc_min := hts (.code Lib.Math.min.name Lib.Math.min.code 2 (some .int)) (by decide +kernel)
  have mi := hts (.initialized "java/lang/Math") (by decide +kernel)
  have ml127 := hts (.methodLink RX4 127 Lib.Math.min.name) (by decide +kernel)
  have ml133 := hts (.methodLink RX4 133 Lib.Math.max.name) (by decide +kernel)
  have ms_max := hts (.static Lib.Math.max.name) (by decide +kernel)
  have ms_min := hts (.static Lib.Math.min.name) (by decide +kernel)
  have hl : lv_has ls 4 [(0, .ref (bd 0)), (1, .int v1), (2, .int v2), (3, .int v3)] := hl
  have B104 : ∀ (m_values m_runs : Nat → Int32) (m_dues : Nat → Int64) (m_output : Nat → Int32) (H : Heap) (locs : List Loc) (ls : Array Slot), va_P D vwCl (MW bd cb m_thrown m_states m_timerEvents m_transitions m_froms m_events m_variables m_relations m_numbers m_nexts m_sizes m_actions m_fired m_state m_time m_values m_runs m_dues m_emitted m_output m_ignored m_isCompiled m_classes m_numbersOf m_offsets m_useds m_tableSize m_owners m_isReached m_areApart) H → va_D A (MW bd cb m_thrown m_states m_timerEvents m_transitions m_froms m_events m_variables m_relations m_numbers m_nexts m_sizes m_actions m_fired m_state m_time m_values m_runs m_dues m_emitted m_output m_ignored m_isCompiled m_classes m_numbersOf m_offsets m_useds m_tableSize m_owners m_isReached m_areApart) → va_S A s.heap H locs → lv_has ls 4 [(0, .ref (bd 0))] → X4_act_B104 m_emitted m_values m_runs m_dues m_output = some o → W p l e rmX4_act s m args below meth c H locs 0 0 Z (F0 m 104 ls []) := by
    intro m_values m_runs m_dues m_output H locs ls hP hD hS hl hf
    unfold X4_act_B104 at hf
    refine lv_aload_n hx hb dX4_act_104 rfl (lv_at hl 0 rfl) ?_
    refine lv_dup hx hb dX4_act_105 rfl ?_
    refine va_get (D := D) (ci := 4) (v := .int m_emitted) (C := RX4) (T := TX4) (N := 30) hx hb hts hiX4 hown hK hP 0 rfl rfl 18 (by decide) f121 (fun _ h9 => h9) rfl dX4_act_106 ?_
    refine lv_iconst (v := (1 : Int32)) hx hb dX4_act_109 (by decide) ?_
    refine lv_iadd hx hb dX4_act_110 ?_
    refine va_put (D := D) (ci := 4) (v := .int (m_emitted + (1 : Int32))) (ty := .int) (C := RX4) (T := TX4) (N := 30) hx hb hts hiX4 tyX4 tyX4_ok nmX4 hown hK hP hD hS 0 rfl rfl 18 (by decide) f121 (fun _ h9 => h9) rfl (by decide +kernel) rfl rfl (Nat.le_of_ble_eq_true rfl) dX4_act_111 (fun H locs hP hD hS => ?_)
    have hP : va_P D vwCl (MW bd cb m_thrown m_states m_timerEvents m_transitions m_froms m_events m_variables m_relations m_numbers m_nexts m_sizes m_actions m_fired m_state m_time m_values m_runs m_dues (m_emitted + (1 : Int32)) m_output m_ignored m_isCompiled m_classes m_numbersOf m_offsets m_useds m_tableSize m_owners m_isReached m_areApart) H := hP
    have hD : va_D A (MW bd cb m_thrown m_states m_timerEvents m_transitions m_froms m_events m_variables m_relations m_numbers m_nexts m_sizes m_actions m_fired m_state m_time m_values m_runs m_dues (m_emitted + (1 : Int32)) m_output m_ignored m_isCompiled m_classes m_numbersOf m_offsets m_useds m_tableSize m_owners m_isReached m_areApart) := hD
    obtain rfl := Option.some.inj hf
    subst hZ
    exact pw_rv hx hb hr hlocks hK hP hD hS (Nat.le_of_ble_eq_true rfl) (Nat.le_of_ble_eq_true rfl) dX4_act_114
  have B79 : ∀ (m_values m_runs : Nat → Int32) (m_dues : Nat → Int64) (H : Heap) (locs : List Loc) (ls : Array Slot), va_P D vwCl (MW bd cb m_thrown m_states m_timerEvents m_transitions m_froms m_events m_variables m_relations m_numbers m_nexts m_sizes m_actions m_fired m_state m_time m_values m_runs m_dues m_emitted m_output m_ignored m_isCompiled m_classes m_numbersOf m_offsets m_useds m_tableSize m_owners m_isReached m_areApart) H → va_D A (MW bd cb m_thrown m_states m_timerEvents m_transitions m_froms m_events m_variables m_relations m_numbers m_nexts m_sizes m_actions m_fired m_state m_time m_values m_runs m_dues m_emitted m_output m_ignored m_isCompiled m_classes m_numbersOf m_offsets m_useds m_tableSize m_owners m_isReached m_areApart) → va_S A s.heap H locs → lv_has ls 4 [(0, .ref (bd 0)), (1, .int v1), (2, .int v2)] → X4_act_B79 m_emitted m_output v1 v2 m_values m_runs m_dues = some o → W p l e rmX4_act s m args below meth c H locs 0 0 Z (F0 m 79 ls []) := by
    intro m_values m_runs m_dues H locs ls hP hD hS hl hf
    unfold X4_act_B79 at hf
    refine lv_iload_n hx hb dX4_act_79 rfl (lv_at hl 1 rfl) ?_
    refine lv_iconst (v := (4 : Int32)) hx hb dX4_act_80 (by decide) ?_
    refine lv_icmp_eq (tgt := 85) hx hb dX4_act_81 (by decide) (fun hc => ?_) (fun hc => ?_)
    · have hf := pr_t hf hc
      refine lv_aload_n hx hb dX4_act_85 rfl (lv_at hl 0 rfl) ?_
      refine va_get (D := D) (ci := 4) (v := .int m_emitted) (C := RX4) (T := TX4) (N := 30) hx hb hts hiX4 hown hK hP 0 rfl rfl 18 (by decide) f121 (fun _ h9 => h9) rfl dX4_act_86 ?_
      refine lv_bipush (v := (60 : Int32)) hx hb dX4_act_89 (by decide) ?_
      refine lv_icmp_ge (tgt := 104) hx hb dX4_act_91 (by decide) (fun hc => ?_) (fun hc => ?_)
      · have hf := pr_t hf hc
        exact B104 m_values m_runs m_dues m_output H locs ls hP hD hS (lv_sub hl [0] rfl) hf
      · have hf := pr_f hf hc
        refine lv_aload_n hx hb dX4_act_94 rfl (lv_at hl 0 rfl) ?_
        refine va_get (D := D) (ci := 4) (v := .ref (bd 14)) (C := RX4) (T := TX4) (N := 30) hx hb hts hiX4 hown hK hP 0 rfl rfl 19 (by decide) f55 (fun _ h9 => h9) rfl dX4_act_95 ?_
        refine lv_aload_n hx hb dX4_act_98 rfl (lv_at hl 0 rfl) ?_
        refine va_get (D := D) (ci := 4) (v := .int m_emitted) (C := RX4) (T := TX4) (N := 30) hx hb hts hiX4 hown hK hP 0 rfl rfl 18 (by decide) f121 (fun _ h9 => h9) rfl dX4_act_99 ?_
        refine lv_iload_n hx hb dX4_act_102 rfl (lv_at hl 2 rfl) ?_
        obtain ⟨hi103, hf⟩ := pr_in hf
        refine va_iast hx hb hK hP hD hS 14 13 rfl rfl hi103 dX4_act_103 (fun H locs hP hD hS => ?_)
        have hP : va_P D vwCl (MW bd cb m_thrown m_states m_timerEvents m_transitions m_froms m_events m_variables m_relations m_numbers m_nexts m_sizes m_actions m_fired m_state m_time m_values m_runs m_dues m_emitted (upd m_output m_emitted.toNatClampNeg v2) m_ignored m_isCompiled m_classes m_numbersOf m_offsets m_useds m_tableSize m_owners m_isReached m_areApart) H := hP
        have hD : va_D A (MW bd cb m_thrown m_states m_timerEvents m_transitions m_froms m_events m_variables m_relations m_numbers m_nexts m_sizes m_actions m_fired m_state m_time m_values m_runs m_dues m_emitted (upd m_output m_emitted.toNatClampNeg v2) m_ignored m_isCompiled m_classes m_numbersOf m_offsets m_useds m_tableSize m_owners m_isReached m_areApart) := hD
        exact B104 m_values m_runs m_dues (upd m_output m_emitted.toNatClampNeg v2) H locs ls hP hD hS (lv_sub hl [0] rfl) hf
    · have hf := pr_f hf hc
      obtain rfl := Option.some.inj hf
      subst hZ
      exact pw_rv hx hb hr hlocks hK hP hD hS (Nat.le_of_ble_eq_true rfl) (Nat.le_of_ble_eq_true rfl) dX4_act_84
  have B67 : ∀ (m_values m_runs : Nat → Int32) (m_dues : Nat → Int64) (H : Heap) (locs : List Loc) (ls : Array Slot), va_P D vwCl (MW bd cb m_thrown m_states m_timerEvents m_transitions m_froms m_events m_variables m_relations m_numbers m_nexts m_sizes m_actions m_fired m_state m_time m_values m_runs m_dues m_emitted m_output m_ignored m_isCompiled m_classes m_numbersOf m_offsets m_useds m_tableSize m_owners m_isReached m_areApart) H → va_D A (MW bd cb m_thrown m_states m_timerEvents m_transitions m_froms m_events m_variables m_relations m_numbers m_nexts m_sizes m_actions m_fired m_state m_time m_values m_runs m_dues m_emitted m_output m_ignored m_isCompiled m_classes m_numbersOf m_offsets m_useds m_tableSize m_owners m_isReached m_areApart) → va_S A s.heap H locs → lv_has ls 4 [(0, .ref (bd 0)), (1, .int v1), (2, .int v2)] → X4_act_B67 m_emitted m_output v1 v2 m_values m_runs m_dues = some o → W p l e rmX4_act s m args below meth c H locs 0 0 Z (F0 m 67 ls []) := by
    intro m_values m_runs m_dues H locs ls hP hD hS hl hf
    unfold X4_act_B67 at hf
    refine lv_iload_n hx hb dX4_act_67 rfl (lv_at hl 1 rfl) ?_
    refine lv_iconst (v := (3 : Int32)) hx hb dX4_act_68 (by decide) ?_
    refine lv_icmp_ne (tgt := 79) hx hb dX4_act_69 (by decide) (fun hc => ?_) (fun hc => ?_)
    · have hf := pr_f hf hc
      exact B79 m_values m_runs m_dues H locs ls hP hD hS (lv_sub hl [0, 1, 2] rfl) hf
    · have hf := pr_t hf hc
      refine lv_aload_n hx hb dX4_act_72 rfl (lv_at hl 0 rfl) ?_
      refine va_get (D := D) (ci := 4) (v := .ref (bd 12)) (C := RX4) (T := TX4) (N := 30) hx hb hts hiX4 hown hK hP 0 rfl rfl 16 (by decide) f47 (fun _ h9 => h9) rfl dX4_act_73 ?_
      refine lv_iload_n hx hb dX4_act_76 rfl (lv_at hl 2 rfl) ?_
      refine lv_iconst (v := (0 : Int32)) hx hb dX4_act_77 (by decide) ?_
      obtain ⟨hi78, hf⟩ := pr_in hf
      refine va_zast hx hb hK hP hD hS 12 11 rfl rfl hi78 dX4_act_78 (fun H locs hP hD hS => ?_)
      have hP : va_P D vwCl (MW bd cb m_thrown m_states m_timerEvents m_transitions m_froms m_events m_variables m_relations m_numbers m_nexts m_sizes m_actions m_fired m_state m_time m_values (upd m_runs v2.toNatClampNeg (0 : Int32)) m_dues m_emitted m_output m_ignored m_isCompiled m_classes m_numbersOf m_offsets m_useds m_tableSize m_owners m_isReached m_areApart) H := hP
      have hD : va_D A (MW bd cb m_thrown m_states m_timerEvents m_transitions m_froms m_events m_variables m_relations m_numbers m_nexts m_sizes m_actions m_fired m_state m_time m_values (upd m_runs v2.toNatClampNeg (0 : Int32)) m_dues m_emitted m_output m_ignored m_isCompiled m_classes m_numbersOf m_offsets m_useds m_tableSize m_owners m_isReached m_areApart) := hD
      exact B79 m_values (upd m_runs v2.toNatClampNeg (0 : Int32)) m_dues H locs ls hP hD hS (lv_sub hl [0, 1, 2] rfl) hf
  have B42 : ∀ (m_values : Nat → Int32) (H : Heap) (locs : List Loc) (ls : Array Slot), va_P D vwCl (MW bd cb m_thrown m_states m_timerEvents m_transitions m_froms m_events m_variables m_relations m_numbers m_nexts m_sizes m_actions m_fired m_state m_time m_values m_runs m_dues m_emitted m_output m_ignored m_isCompiled m_classes m_numbersOf m_offsets m_useds m_tableSize m_owners m_isReached m_areApart) H → va_D A (MW bd cb m_thrown m_states m_timerEvents m_transitions m_froms m_events m_variables m_relations m_numbers m_nexts m_sizes m_actions m_fired m_state m_time m_values m_runs m_dues m_emitted m_output m_ignored m_isCompiled m_classes m_numbersOf m_offsets m_useds m_tableSize m_owners m_isReached m_areApart) → va_S A s.heap H locs → lv_has ls 4 [(0, .ref (bd 0)), (1, .int v1), (2, .int v2), (3, .int v3)] → X4_act_B42 m_time m_runs m_dues m_emitted m_output v1 v2 v3 m_values = some o → W p l e rmX4_act s m args below meth c H locs 0 0 Z (F0 m 42 ls []) := by
    intro m_values H locs ls hP hD hS hl hf
    unfold X4_act_B42 at hf
    refine lv_iload_n hx hb dX4_act_42 rfl (lv_at hl 1 rfl) ?_
    refine lv_iconst (v := (2 : Int32)) hx hb dX4_act_43 (by decide) ?_
    refine lv_icmp_ne (tgt := 67) hx hb dX4_act_44 (by decide) (fun hc => ?_) (fun hc => ?_)
    · have hf := pr_f hf hc
      exact B67 m_values m_runs m_dues H locs ls hP hD hS (lv_sub hl [0, 1, 2] rfl) hf
    · have hf := pr_t hf hc
      refine lv_aload_n hx hb dX4_act_47 rfl (lv_at hl 0 rfl) ?_
      refine va_get (D := D) (ci := 4) (v := .ref (bd 12)) (C := RX4) (T := TX4) (N := 30) hx hb hts hiX4 hown hK hP 0 rfl rfl 16 (by decide) f47 (fun _ h9 => h9) rfl dX4_act_48 ?_
      refine lv_iload_n hx hb dX4_act_51 rfl (lv_at hl 2 rfl) ?_
      refine lv_iconst (v := (1 : Int32)) hx hb dX4_act_52 (by decide) ?_
      obtain ⟨hi53, hf⟩ := pr_in hf
      refine va_zast hx hb hK hP hD hS 12 11 rfl rfl hi53 dX4_act_53 (fun H locs hP hD hS => ?_)
      have hP : va_P D vwCl (MW bd cb m_thrown m_states m_timerEvents m_transitions m_froms m_events m_variables m_relations m_numbers m_nexts m_sizes m_actions m_fired m_state m_time m_values (upd m_runs v2.toNatClampNeg (1 : Int32)) m_dues m_emitted m_output m_ignored m_isCompiled m_classes m_numbersOf m_offsets m_useds m_tableSize m_owners m_isReached m_areApart) H := hP
      have hD : va_D A (MW bd cb m_thrown m_states m_timerEvents m_transitions m_froms m_events m_variables m_relations m_numbers m_nexts m_sizes m_actions m_fired m_state m_time m_values (upd m_runs v2.toNatClampNeg (1 : Int32)) m_dues m_emitted m_output m_ignored m_isCompiled m_classes m_numbersOf m_offsets m_useds m_tableSize m_owners m_isReached m_areApart) := hD
      refine lv_aload_n hx hb dX4_act_54 rfl (lv_at hl 0 rfl) ?_
      refine va_get (D := D) (ci := 4) (v := .ref (bd 13)) (C := RX4) (T := TX4) (N := 30) hx hb hts hiX4 hown hK hP 0 rfl rfl 17 (by decide) f51 (fun _ h9 => h9) rfl dX4_act_55 ?_
      refine lv_iload_n hx hb dX4_act_58 rfl (lv_at hl 2 rfl) ?_
      refine lv_aload_n hx hb dX4_act_59 rfl (lv_at hl 0 rfl) ?_
      refine va_get (D := D) (ci := 4) (v := .long m_time) (C := RX4) (T := TX4) (N := 30) hx hb hts hiX4 hown hK hP 0 rfl rfl 14 (by decide) f114 (fun _ h9 => h9) rfl dX4_act_60 ?_
      refine lv_iload_n hx hb dX4_act_63 rfl (lv_at hl 3 rfl) ?_
      refine lv_i2l (v := v3.toInt64) hx hb dX4_act_64 rfl ?_
      refine lv_ladd hx hb dX4_act_65 ?_
      refine va_last hx hb hK hP hD hS 13 12 rfl rfl hi53 dX4_act_66 (fun H locs hP hD hS => ?_)
      have hP : va_P D vwCl (MW bd cb m_thrown m_states m_timerEvents m_transitions m_froms m_events m_variables m_relations m_numbers m_nexts m_sizes m_actions m_fired m_state m_time m_values (upd m_runs v2.toNatClampNeg (1 : Int32)) (vp_updL m_dues v2.toNatClampNeg (m_time + v3.toInt64)) m_emitted m_output m_ignored m_isCompiled m_classes m_numbersOf m_offsets m_useds m_tableSize m_owners m_isReached m_areApart) H := hP
      have hD : va_D A (MW bd cb m_thrown m_states m_timerEvents m_transitions m_froms m_events m_variables m_relations m_numbers m_nexts m_sizes m_actions m_fired m_state m_time m_values (upd m_runs v2.toNatClampNeg (1 : Int32)) (vp_updL m_dues v2.toNatClampNeg (m_time + v3.toInt64)) m_emitted m_output m_ignored m_isCompiled m_classes m_numbersOf m_offsets m_useds m_tableSize m_owners m_isReached m_areApart) := hD
      exact B67 m_values (upd m_runs v2.toNatClampNeg (1 : Int32)) (vp_updL m_dues v2.toNatClampNeg (m_time + v3.toInt64)) H locs ls hP hD hS (lv_sub hl [0, 1, 2] rfl) hf
  have B11 : ∀ (m_values : Nat → Int32) (H : Heap) (locs : List Loc) (ls : Array Slot), va_P D vwCl (MW bd cb m_thrown m_states m_timerEvents m_transitions m_froms m_events m_variables m_relations m_numbers m_nexts m_sizes m_actions m_fired m_state m_time m_values m_runs m_dues m_emitted m_output m_ignored m_isCompiled m_classes m_numbersOf m_offsets m_useds m_tableSize m_owners m_isReached m_areApart) H → va_D A (MW bd cb m_thrown m_states m_timerEvents m_transitions m_froms m_events m_variables m_relations m_numbers m_nexts m_sizes m_actions m_fired m_state m_time m_values m_runs m_dues m_emitted m_output m_ignored m_isCompiled m_classes m_numbersOf m_offsets m_useds m_tableSize m_owners m_isReached m_areApart) → va_S A s.heap H locs → lv_has ls 4 [(0, .ref (bd 0)), (1, .int v1), (2, .int v2), (3, .int v3)] → X4_act_B11 m_time m_runs m_dues m_emitted m_output v1 v2 v3 m_values = some o → W p l e rmX4_act s m args below meth c H locs 0 0 Z (F0 m 11 ls []) := by
    intro m_values H locs ls hP hD hS hl hf
    unfold X4_act_B11 at hf
    refine lv_iload_n hx hb dX4_act_11 rfl (lv_at hl 1 rfl) ?_
    refine lv_iconst (v := (1 : Int32)) hx hb dX4_act_12 (by decide) ?_
    refine lv_icmp_ne (tgt := 42) hx hb dX4_act_13 (by decide) (fun hc => ?_) (fun hc => ?_)
    · have hf := pr_f hf hc
      exact B42 m_values H locs ls hP hD hS (lv_sub hl [0, 1, 2, 3] rfl) hf
    · have hf := pr_t hf hc
      refine lv_aload_n hx hb dX4_act_16 rfl (lv_at hl 0 rfl) ?_
      refine va_get (D := D) (ci := 4) (v := .ref (bd 11)) (C := RX4) (T := TX4) (N := 30) hx hb hts hiX4 hown hK hP 0 rfl rfl 15 (by decide) f44 (fun _ h9 => h9) rfl dX4_act_17 ?_
      refine lv_iload_n hx hb dX4_act_20 rfl (lv_at hl 2 rfl) ?_
      refine lv_sipush (v := (-1000 : Int32)) hx hb dX4_act_21 (by decide) ?_
      refine lv_sipush (v := (1000 : Int32)) hx hb dX4_act_24 (by decide) ?_
      refine lv_aload_n hx hb dX4_act_27 rfl (lv_at hl 0 rfl) ?_
      refine va_get (D := D) (ci := 4) (v := .ref (bd 11)) (C := RX4) (T := TX4) (N := 30) hx hb hts hiX4 hown hK hP 0 rfl rfl 15 (by decide) f44 (fun _ h9 => h9) rfl dX4_act_28 ?_
      refine lv_iload_n hx hb dX4_act_31 rfl (lv_at hl 2 rfl) ?_
      obtain ⟨hi32, hf⟩ := pr_in hf
      refine va_iald hx hb hK hP 11 10 rfl rfl hi32 dX4_act_32 ?_
      refine lv_iload_n hx hb dX4_act_33 rfl (lv_at hl 3 rfl) ?_
      refine lv_iadd hx hb dX4_act_34 ?_
      refine va_mmin hx hb (hml.trans hl.1.symm) hown ml127 ms_min mi mc_min (Nat.le_of_ble_eq_true rfl) (Nat.le_of_ble_eq_true rfl) (Nat.le_of_ble_eq_true rfl) (Nat.le_of_ble_eq_true rfl) dX4_act_35 ?_
      refine va_mmax hx hb (hml.trans hl.1.symm) hown ml133 ms_max mi mc_max (Nat.le_of_ble_eq_true rfl) (Nat.le_of_ble_eq_true rfl) (Nat.le_of_ble_eq_true rfl) (Nat.le_of_ble_eq_true rfl) dX4_act_38 ?_
      refine va_iast hx hb hK hP hD hS 11 10 rfl rfl hi32 dX4_act_41 (fun H locs hP hD hS => ?_)
      have hP : va_P D vwCl (MW bd cb m_thrown m_states m_timerEvents m_transitions m_froms m_events m_variables m_relations m_numbers m_nexts m_sizes m_actions m_fired m_state m_time (upd m_values v2.toNatClampNeg (if (-1000 : Int32) < (if ((m_values v2.toNatClampNeg) + v3) < (1000 : Int32) then ((m_values v2.toNatClampNeg) + v3) else (1000 : Int32)) then (if ((m_values v2.toNatClampNeg) + v3) < (1000 : Int32) then ((m_values v2.toNatClampNeg) + v3) else (1000 : Int32)) else (-1000 : Int32))) m_runs m_dues m_emitted m_output m_ignored m_isCompiled m_classes m_numbersOf m_offsets m_useds m_tableSize m_owners m_isReached m_areApart) H := hP
      have hD : va_D A (MW bd cb m_thrown m_states m_timerEvents m_transitions m_froms m_events m_variables m_relations m_numbers m_nexts m_sizes m_actions m_fired m_state m_time (upd m_values v2.toNatClampNeg (if (-1000 : Int32) < (if ((m_values v2.toNatClampNeg) + v3) < (1000 : Int32) then ((m_values v2.toNatClampNeg) + v3) else (1000 : Int32)) then (if ((m_values v2.toNatClampNeg) + v3) < (1000 : Int32) then ((m_values v2.toNatClampNeg) + v3) else (1000 : Int32)) else (-1000 : Int32))) m_runs m_dues m_emitted m_output m_ignored m_isCompiled m_classes m_numbersOf m_offsets m_useds m_tableSize m_owners m_isReached m_areApart) := hD
      exact B42 (upd m_values v2.toNatClampNeg (if (-1000 : Int32) < (if ((m_values v2.toNatClampNeg) + v3) < (1000 : Int32) then ((m_values v2.toNatClampNeg) + v3) else (1000 : Int32)) then (if ((m_values v2.toNatClampNeg) + v3) < (1000 : Int32) then ((m_values v2.toNatClampNeg) + v3) else (1000 : Int32)) else (-1000 : Int32))) H locs ls hP hD hS (lv_sub hl [0, 1, 2, 3] rfl) hf
  unfold X4_act at hf
  refine lv_iload_n hx hb dX4_act_0 rfl (lv_at hl 1 rfl) ?_
  refine lv_if_ne (tgt := 11) hx hb dX4_act_1 (by decide) (fun hc => ?_) (fun hc => ?_)
  · have hf := pr_f hf hc
    exact B11 m_values H locs ls hP hD hS (lv_sub hl [0, 1, 2, 3] rfl) hf
  · have hf := pr_t hf hc
    refine lv_aload_n hx hb dX4_act_4 rfl (lv_at hl 0 rfl) ?_
    refine va_get (D := D) (ci := 4) (v := .ref (bd 11)) (C := RX4) (T := TX4) (N := 30) hx hb hts hiX4 hown hK hP 0 rfl rfl 15 (by decide) f44 (fun _ h9 => h9) rfl dX4_act_5 ?_
    refine lv_iload_n hx hb dX4_act_8 rfl (lv_at hl 2 rfl) ?_
    refine lv_iload_n hx hb dX4_act_9 rfl (lv_at hl 3 rfl) ?_
    obtain ⟨hi10, hf⟩ := pr_in hf
    refine va_iast hx hb hK hP hD hS 11 10 rfl rfl hi10 dX4_act_10 (fun H locs hP hD hS => ?_)
    have hP : va_P D vwCl (MW bd cb m_thrown m_states m_timerEvents m_transitions m_froms m_events m_variables m_relations m_numbers m_nexts m_sizes m_actions m_fired m_state m_time (upd m_values v2.toNatClampNeg v3) m_runs m_dues m_emitted m_output m_ignored m_isCompiled m_classes m_numbersOf m_offsets m_useds m_tableSize m_owners m_isReached m_areApart) H := hP
    have hD : va_D A (MW bd cb m_thrown m_states m_timerEvents m_transitions m_froms m_events m_variables m_relations m_numbers m_nexts m_sizes m_actions m_fired m_state m_time (upd m_values v2.toNatClampNeg v3) m_runs m_dues m_emitted m_output m_ignored m_isCompiled m_classes m_numbersOf m_offsets m_useds m_tableSize m_owners m_isReached m_areApart) := hD
    exact B11 (upd m_values v2.toNatClampNeg v3) H locs ls hP hD hS (lv_sub hl [0, 1, 2, 3] rfl) hf
abbrev rmX4_fire : Room := { frames := 2, cells := 0, slots := 0, locals := 44 }
set_option maxHeartbeats 4000000 in
set_option maxRecDepth 100000 in
theorem c_X4_fire {l : Launch} {D : va_G} {bd : Nat → Nat} {cb : Nat → ClassId} (fu : Nat) (m_thrown m_states : Int32) (m_timerEvents : Nat → Int32) (m_transitions : Int32) (m_froms m_events m_variables m_relations m_numbers m_nexts m_sizes m_actions m_fired : Nat → Int32) (m_state : Int32) (m_time : Int64) (m_values m_runs : Nat → Int32) (m_dues : Nat → Int64) (m_emitted : Int32) (m_output : Nat → Int32) (m_ignored m_isCompiled m_classes : Int32) (m_numbersOf m_offsets m_useds : Nat → Int32) (m_tableSize : Int32) (m_owners m_isReached m_areApart : Nat → Int32) (v1 : Int32) {o : Int32 × (Nat → Int32) × Int32 × (Nat → Int32) × (Nat → Int32) × (Nat → Int64) × Int32 × (Nat → Int32) × Int32} (hf : X4_fire fu m_transitions m_froms m_events m_variables m_relations m_numbers m_nexts m_sizes m_actions m_fired m_state m_time m_values m_runs m_dues m_emitted m_output m_ignored v1 = some o) : Ci l yX4_fire wsX4_fire rmX4_fire D (MT cb) (MW bd cb m_thrown m_states m_timerEvents m_transitions m_froms m_events m_variables m_relations m_numbers m_nexts m_sizes m_actions m_fired m_state m_time m_values m_runs m_dues m_emitted m_output m_ignored m_isCompiled m_classes m_numbersOf m_offsets m_useds m_tableSize m_owners m_isReached m_areApart) [.ref (bd 0), .int v1] o.1 (MW bd cb m_thrown m_states m_timerEvents m_transitions m_froms m_events m_variables m_relations m_numbers m_nexts m_sizes m_actions o.2.1 o.2.2.1 m_time o.2.2.2.1 o.2.2.2.2.1 o.2.2.2.2.2.1 o.2.2.2.2.2.2.1 o.2.2.2.2.2.2.2.1 o.2.2.2.2.2.2.2.2 m_isCompiled m_classes m_numbersOf m_offsets m_useds m_tableSize m_owners m_isReached m_areApart) := by
  intro sz
  refine pw_entry (Qc := fun A => pw_Qi D (MT cb) (MW bd cb m_thrown m_states m_timerEvents m_transitions m_froms m_events m_variables m_relations m_numbers m_nexts m_sizes m_actions o.2.1 o.2.2.1 m_time o.2.2.2.1 o.2.2.2.2.1 o.2.2.2.2.2.1 o.2.2.2.2.2.2.1 o.2.2.2.2.2.2.2.1 o.2.2.2.2.2.2.2.2 m_isCompiled m_classes m_numbersOf m_offsets m_useds m_tableSize m_owners m_isReached m_areApart) A o.1) (cc := cX4_fire) (maxL := 5) (ret := (some .int)) (by decide) rfl (Nat.le_of_ble_eq_true rfl) ?_ sz
  intro p e s m args below meth c A ls Z H locs hx hb hr hlocks hts hown hml hnm hK hP hD hS hA hl hZ
  have hown : s.vm.findClass RX4 = some m.cls := hown
  have hiX4 : ∀ w ∈ u_ws RX4 TX4 30, w ∈ wsX4_fire := by decide +kernel
  have f118 := hts (.fieldLink RX4 118 "ProtocolMachineModel" "state" "I") (by decide +kernel)
  have f124 := hts (.fieldLink RX4 124 "ProtocolMachineModel" "ignored" "I") (by decide +kernel)
  have f17 := hts (.fieldLink RX4 17 "ProtocolMachineModel" "froms" "[I") (by decide +kernel)
  have f20 := hts (.fieldLink RX4 20 "ProtocolMachineModel" "events" "[I") (by decide +kernel)
  have f23 := hts (.fieldLink RX4 23 "ProtocolMachineModel" "variables" "[I") (by decide +kernel)
  have f32 := hts (.fieldLink RX4 32 "ProtocolMachineModel" "nexts" "[I") (by decide +kernel)
  have f35 := hts (.fieldLink RX4 35 "ProtocolMachineModel" "sizes" "[I") (by decide +kernel)
  have f38 := hts (.fieldLink RX4 38 "ProtocolMachineModel" "actions" "[I") (by decide +kernel)
  have f41 := hts (.fieldLink RX4 41 "ProtocolMachineModel" "fired" "[I") (by decide +kernel)
  have f44 := hts (.fieldLink RX4 44 "ProtocolMachineModel" "values" "[I") (by decide +kernel)
  have f83 := hts (.fieldLink RX4 83 "ProtocolMachineModel" "transitions" "I") (by decide +kernel)
  have hl : lv_has ls 5 [(0, .ref (bd 0)), (1, .int v1)] := hl
  have B149 : ∀  (H : Heap) (locs : List Loc) (ls : Array Slot), va_P D vwCl (MW bd cb m_thrown m_states m_timerEvents m_transitions m_froms m_events m_variables m_relations m_numbers m_nexts m_sizes m_actions m_fired m_state m_time m_values m_runs m_dues m_emitted m_output m_ignored m_isCompiled m_classes m_numbersOf m_offsets m_useds m_tableSize m_owners m_isReached m_areApart) H → va_D A (MW bd cb m_thrown m_states m_timerEvents m_transitions m_froms m_events m_variables m_relations m_numbers m_nexts m_sizes m_actions m_fired m_state m_time m_values m_runs m_dues m_emitted m_output m_ignored m_isCompiled m_classes m_numbersOf m_offsets m_useds m_tableSize m_owners m_isReached m_areApart) → va_S A s.heap H locs → lv_has ls 5 [(0, .ref (bd 0))] → X4_fire_B149 m_fired m_state m_values m_runs m_dues m_emitted m_output m_ignored  = some o → W p l e rmX4_fire s m args below meth c H locs 0 0 Z (F0 m 149 ls []) := by
    intro  H locs ls hP hD hS hl hf
    unfold X4_fire_B149 at hf
    refine lv_aload_n hx hb dX4_fire_149 rfl (lv_at hl 0 rfl) ?_
    refine lv_dup hx hb dX4_fire_150 rfl ?_
    refine va_get (D := D) (ci := 4) (v := .int m_ignored) (C := RX4) (T := TX4) (N := 30) hx hb hts hiX4 hown hK hP 0 rfl rfl 20 (by decide) f124 (fun _ h9 => h9) rfl dX4_fire_151 ?_
    refine lv_iconst (v := (1 : Int32)) hx hb dX4_fire_154 (by decide) ?_
    refine lv_iadd hx hb dX4_fire_155 ?_
    refine va_put (D := D) (ci := 4) (v := .int (m_ignored + (1 : Int32))) (ty := .int) (C := RX4) (T := TX4) (N := 30) hx hb hts hiX4 tyX4 tyX4_ok nmX4 hown hK hP hD hS 0 rfl rfl 20 (by decide) f124 (fun _ h9 => h9) rfl (by decide +kernel) rfl rfl (Nat.le_of_ble_eq_true rfl) dX4_fire_156 (fun H locs hP hD hS => ?_)
    have hP : va_P D vwCl (MW bd cb m_thrown m_states m_timerEvents m_transitions m_froms m_events m_variables m_relations m_numbers m_nexts m_sizes m_actions m_fired m_state m_time m_values m_runs m_dues m_emitted m_output (m_ignored + (1 : Int32)) m_isCompiled m_classes m_numbersOf m_offsets m_useds m_tableSize m_owners m_isReached m_areApart) H := hP
    have hD : va_D A (MW bd cb m_thrown m_states m_timerEvents m_transitions m_froms m_events m_variables m_relations m_numbers m_nexts m_sizes m_actions m_fired m_state m_time m_values m_runs m_dues m_emitted m_output (m_ignored + (1 : Int32)) m_isCompiled m_classes m_numbersOf m_offsets m_useds m_tableSize m_owners m_isReached m_areApart) := hD
    refine lv_iconst (v := (-1 : Int32)) hx hb dX4_fire_159 (by decide) ?_
    obtain rfl := Option.some.inj hf
    subst hZ
    exact pw_ri hx hb hr hlocks hK hP hD hS (Nat.le_of_ble_eq_true rfl) (Nat.le_of_ble_eq_true rfl) dX4_fire_160
  have B121 : ∀ (m_values m_runs : Nat → Int32) (m_dues : Nat → Int64) (m_emitted : Int32) (m_output : Nat → Int32) (v2 : Int32) (H : Heap) (locs : List Loc) (ls : Array Slot), va_P D vwCl (MW bd cb m_thrown m_states m_timerEvents m_transitions m_froms m_events m_variables m_relations m_numbers m_nexts m_sizes m_actions m_fired m_state m_time m_values m_runs m_dues m_emitted m_output m_ignored m_isCompiled m_classes m_numbersOf m_offsets m_useds m_tableSize m_owners m_isReached m_areApart) H → va_D A (MW bd cb m_thrown m_states m_timerEvents m_transitions m_froms m_events m_variables m_relations m_numbers m_nexts m_sizes m_actions m_fired m_state m_time m_values m_runs m_dues m_emitted m_output m_ignored m_isCompiled m_classes m_numbersOf m_offsets m_useds m_tableSize m_owners m_isReached m_areApart) → va_S A s.heap H locs → lv_has ls 5 [(0, .ref (bd 0)), (2, .int v2)] → X4_fire_B121 m_nexts m_fired m_ignored m_values m_runs m_dues m_emitted m_output v2 = some o → W p l e rmX4_fire s m args below meth c H locs 0 0 Z (F0 m 121 ls []) := by
    intro m_values m_runs m_dues m_emitted m_output v2 H locs ls hP hD hS hl hf
    unfold X4_fire_B121 at hf
    refine lv_aload_n hx hb dX4_fire_121 rfl (lv_at hl 0 rfl) ?_
    refine lv_aload_n hx hb dX4_fire_122 rfl (lv_at hl 0 rfl) ?_
    refine va_get (D := D) (ci := 4) (v := .ref (bd 7)) (C := RX4) (T := TX4) (N := 30) hx hb hts hiX4 hown hK hP 0 rfl rfl 9 (by decide) f32 (fun _ h9 => h9) rfl dX4_fire_123 ?_
    refine lv_iload_n hx hb dX4_fire_126 rfl (lv_at hl 1 rfl) ?_
    obtain ⟨hi127, hf⟩ := pr_in hf
    refine va_iald hx hb hK hP 7 6 rfl rfl hi127 dX4_fire_127 ?_
    refine va_put (D := D) (ci := 4) (v := .int (m_nexts v2.toNatClampNeg)) (ty := .int) (C := RX4) (T := TX4) (N := 30) hx hb hts hiX4 tyX4 tyX4_ok nmX4 hown hK hP hD hS 0 rfl rfl 13 (by decide) f118 (fun _ h9 => h9) rfl (by decide +kernel) rfl rfl (Nat.le_of_ble_eq_true rfl) dX4_fire_128 (fun H locs hP hD hS => ?_)
    have hP : va_P D vwCl (MW bd cb m_thrown m_states m_timerEvents m_transitions m_froms m_events m_variables m_relations m_numbers m_nexts m_sizes m_actions m_fired (m_nexts v2.toNatClampNeg) m_time m_values m_runs m_dues m_emitted m_output m_ignored m_isCompiled m_classes m_numbersOf m_offsets m_useds m_tableSize m_owners m_isReached m_areApart) H := hP
    have hD : va_D A (MW bd cb m_thrown m_states m_timerEvents m_transitions m_froms m_events m_variables m_relations m_numbers m_nexts m_sizes m_actions m_fired (m_nexts v2.toNatClampNeg) m_time m_values m_runs m_dues m_emitted m_output m_ignored m_isCompiled m_classes m_numbersOf m_offsets m_useds m_tableSize m_owners m_isReached m_areApart) := hD
    refine lv_aload_n hx hb dX4_fire_131 rfl (lv_at hl 0 rfl) ?_
    refine va_get (D := D) (ci := 4) (v := .ref (bd 10)) (C := RX4) (T := TX4) (N := 30) hx hb hts hiX4 hown hK hP 0 rfl rfl 12 (by decide) f41 (fun _ h9 => h9) rfl dX4_fire_132 ?_
    refine lv_iload_n hx hb dX4_fire_135 rfl (lv_at hl 1 rfl) ?_
    refine lv_dup2_11 hx hb dX4_fire_136 rfl rfl ?_
    refine va_iald hx hb hK hP 10 9 rfl rfl hi127 dX4_fire_137 ?_
    refine lv_iconst (v := (1 : Int32)) hx hb dX4_fire_138 (by decide) ?_
    refine lv_iadd hx hb dX4_fire_139 ?_
    refine va_iast hx hb hK hP hD hS 10 9 rfl rfl hi127 dX4_fire_140 (fun H locs hP hD hS => ?_)
    have hP : va_P D vwCl (MW bd cb m_thrown m_states m_timerEvents m_transitions m_froms m_events m_variables m_relations m_numbers m_nexts m_sizes m_actions (upd m_fired v2.toNatClampNeg ((m_fired v2.toNatClampNeg) + (1 : Int32))) (m_nexts v2.toNatClampNeg) m_time m_values m_runs m_dues m_emitted m_output m_ignored m_isCompiled m_classes m_numbersOf m_offsets m_useds m_tableSize m_owners m_isReached m_areApart) H := hP
    have hD : va_D A (MW bd cb m_thrown m_states m_timerEvents m_transitions m_froms m_events m_variables m_relations m_numbers m_nexts m_sizes m_actions (upd m_fired v2.toNatClampNeg ((m_fired v2.toNatClampNeg) + (1 : Int32))) (m_nexts v2.toNatClampNeg) m_time m_values m_runs m_dues m_emitted m_output m_ignored m_isCompiled m_classes m_numbersOf m_offsets m_useds m_tableSize m_owners m_isReached m_areApart) := hD
    refine lv_iload_n hx hb dX4_fire_141 rfl (lv_at hl 1 rfl) ?_
    obtain rfl := Option.some.inj hf
    subst hZ
    exact pw_ri hx hb hr hlocks hK hP hD hS (Nat.le_of_ble_eq_true rfl) (Nat.le_of_ble_eq_true rfl) dX4_fire_142
  have L67 : ∀ n67 : Nat, ∀ (m_values m_runs : Nat → Int32) (m_dues : Nat → Int64) (m_emitted : Int32) (m_output : Nat → Int32) (v2 v3 : Int32) (H : Heap) (locs : List Loc) (ls : Array Slot), va_P D vwCl (MW bd cb m_thrown m_states m_timerEvents m_transitions m_froms m_events m_variables m_relations m_numbers m_nexts m_sizes m_actions m_fired m_state m_time m_values m_runs m_dues m_emitted m_output m_ignored m_isCompiled m_classes m_numbersOf m_offsets m_useds m_tableSize m_owners m_isReached m_areApart) H → va_D A (MW bd cb m_thrown m_states m_timerEvents m_transitions m_froms m_events m_variables m_relations m_numbers m_nexts m_sizes m_actions m_fired m_state m_time m_values m_runs m_dues m_emitted m_output m_ignored m_isCompiled m_classes m_numbersOf m_offsets m_useds m_tableSize m_owners m_isReached m_areApart) → va_S A s.heap H locs → lv_has ls 5 [(0, .ref (bd 0)), (2, .int v2), (3, .int v3)] → X4_fire_L67 m_nexts m_sizes m_actions m_fired m_time m_ignored n67 m_values m_runs m_dues m_emitted m_output v2 v3 = some o → W p l e rmX4_fire s m args below meth c H locs 0 0 Z (F0 m 67 ls []) := by
    intro n67
    induction n67 with
    | zero =>
      intro m_values m_runs m_dues m_emitted m_output v2 v3 H locs ls hP hD hS hl hf
      exact pr_n hf
    | succ n67 ih67 =>
      intro m_values m_runs m_dues m_emitted m_output v2 v3 H locs ls hP hD hS hl hf
      replace hf : X4_fire_B67 m_nexts m_sizes m_actions m_fired m_time m_ignored (X4_fire_L67 m_nexts m_sizes m_actions m_fired m_time m_ignored  n67) m_values m_runs m_dues m_emitted m_output v2 v3 = some o := hf
      unfold X4_fire_B67 at hf
      refine lv_iload_n hx hb dX4_fire_67 rfl (lv_at hl 2 rfl) ?_
      refine lv_aload_n hx hb dX4_fire_68 rfl (lv_at hl 0 rfl) ?_
      refine va_get (D := D) (ci := 4) (v := .ref (bd 8)) (C := RX4) (T := TX4) (N := 30) hx hb hts hiX4 hown hK hP 0 rfl rfl 10 (by decide) f35 (fun _ h9 => h9) rfl dX4_fire_69 ?_
      refine lv_iload_n hx hb dX4_fire_72 rfl (lv_at hl 1 rfl) ?_
      obtain ⟨hi73, hf⟩ := pr_in hf
      refine va_iald hx hb hK hP 8 7 rfl rfl hi73 dX4_fire_73 ?_
      refine lv_icmp_ge (tgt := 121) hx hb dX4_fire_74 (by decide) (fun hc => ?_) (fun hc => ?_)
      · have hf := pr_t hf hc
        exact B121 m_values m_runs m_dues m_emitted m_output v2 H locs ls hP hD hS (lv_sub hl [0, 1] rfl) hf
      · have hf := pr_f hf hc
        refine lv_iconst (v := (3 : Int32)) hx hb dX4_fire_77 (by decide) ?_
        refine lv_iconst (v := (3 : Int32)) hx hb dX4_fire_78 (by decide) ?_
        refine lv_iload_n hx hb dX4_fire_79 rfl (lv_at hl 1 rfl) ?_
        refine lv_imul hx hb dX4_fire_80 ?_
        refine lv_iload_n hx hb dX4_fire_81 rfl (lv_at hl 2 rfl) ?_
        refine lv_iadd hx hb dX4_fire_82 ?_
        refine lv_imul hx hb dX4_fire_83 ?_
        refine lv_istore (lv' := [(4, .int ((3 : Int32) * (((3 : Int32) * v2) + v3))), (0, .ref (bd 0)), (2, .int v2), (3, .int v3)]) hx hb dX4_fire_84 hl (by decide) rfl (fun ls hl => ?_)
        refine lv_aload_n hx hb dX4_fire_86 rfl (lv_at hl 1 rfl) ?_
        refine lv_aload_n hx hb dX4_fire_87 rfl (lv_at hl 1 rfl) ?_
        refine va_get (D := D) (ci := 4) (v := .ref (bd 9)) (C := RX4) (T := TX4) (N := 30) hx hb hts hiX4 hown hK hP 0 rfl rfl 11 (by decide) f38 (fun _ h9 => h9) rfl dX4_fire_88 ?_
        refine lv_iload hx hb dX4_fire_91 (lv_at hl 0 rfl) ?_
        obtain ⟨hi93, hf⟩ := pr_in hf
        refine va_iald hx hb hK hP 9 8 rfl rfl hi93 dX4_fire_93 ?_
        refine lv_aload_n hx hb dX4_fire_94 rfl (lv_at hl 1 rfl) ?_
        refine va_get (D := D) (ci := 4) (v := .ref (bd 9)) (C := RX4) (T := TX4) (N := 30) hx hb hts hiX4 hown hK hP 0 rfl rfl 11 (by decide) f38 (fun _ h9 => h9) rfl dX4_fire_95 ?_
        refine lv_iload hx hb dX4_fire_98 (lv_at hl 0 rfl) ?_
        refine lv_iconst (v := (1 : Int32)) hx hb dX4_fire_100 (by decide) ?_
        refine lv_iadd hx hb dX4_fire_101 ?_
        obtain ⟨hi102, hf⟩ := pr_in hf
        refine va_iald hx hb hK hP 9 8 rfl rfl hi102 dX4_fire_102 ?_
        refine lv_aload_n hx hb dX4_fire_103 rfl (lv_at hl 1 rfl) ?_
        refine va_get (D := D) (ci := 4) (v := .ref (bd 9)) (C := RX4) (T := TX4) (N := 30) hx hb hts hiX4 hown hK hP 0 rfl rfl 11 (by decide) f38 (fun _ h9 => h9) rfl dX4_fire_104 ?_
        refine lv_iload hx hb dX4_fire_107 (lv_at hl 0 rfl) ?_
        refine lv_iconst (v := (2 : Int32)) hx hb dX4_fire_109 (by decide) ?_
        refine lv_iadd hx hb dX4_fire_110 ?_
        obtain ⟨hi111, hf⟩ := pr_in hf
        refine va_iald hx hb hK hP 9 8 rfl rfl hi111 dX4_fire_111 ?_
        obtain ⟨x112, hg112, hf⟩ := pr_b hf
        refine pw_cVvW (b := bd 0) (As := [.int (m_actions ((3 : Int32) * (((3 : Int32) * v2) + v3)).toNatClampNeg), .int (m_actions (((3 : Int32) * (((3 : Int32) * v2) + v3)) + (1 : Int32)).toNatClampNeg), .int (m_actions (((3 : Int32) * (((3 : Int32) * v2) + v3)) + (2 : Int32)).toNatClampNeg)]) (rest := []) ⟨hx, hb, hml, hown, hts⟩ (c_X4_act (D := D) m_thrown m_states m_timerEvents m_transitions m_froms m_events m_variables m_relations m_numbers m_nexts m_sizes m_actions m_fired m_state m_time m_values m_runs m_dues m_emitted m_output m_ignored m_isCompiled m_classes m_numbersOf m_offsets m_useds m_tableSize m_owners m_isReached m_areApart (m_actions ((3 : Int32) * (((3 : Int32) * v2) + v3)).toNatClampNeg) (m_actions (((3 : Int32) * (((3 : Int32) * v2) + v3)) + (1 : Int32)).toNatClampNeg) (m_actions (((3 : Int32) * (((3 : Int32) * v2) + v3)) + (2 : Int32)).toNatClampNeg) hg112) (cwV 3 hts gX4_fire_X4_act rfl rfl rfl (by decide +kernel) ⟨Nat.le_of_ble_eq_true rfl, Nat.le_of_ble_eq_true rfl⟩) 0 4 rfl rfl hK hP hD hS hA rfl hl.1 rfl (Nat.le_of_ble_eq_true rfl) dX4_fire_112 ⟨Nat.le_of_ble_eq_true rfl, Nat.le_of_ble_eq_true rfl⟩ (fun H locs hP hD hS => ?_)
        have hP : va_P D vwCl (MW bd cb m_thrown m_states m_timerEvents m_transitions m_froms m_events m_variables m_relations m_numbers m_nexts m_sizes m_actions m_fired m_state m_time x112.1 x112.2.1 x112.2.2.1 x112.2.2.2.1 x112.2.2.2.2 m_ignored m_isCompiled m_classes m_numbersOf m_offsets m_useds m_tableSize m_owners m_isReached m_areApart) H := hP
        have hD : va_D A (MW bd cb m_thrown m_states m_timerEvents m_transitions m_froms m_events m_variables m_relations m_numbers m_nexts m_sizes m_actions m_fired m_state m_time x112.1 x112.2.1 x112.2.2.1 x112.2.2.2.1 x112.2.2.2.2 m_ignored m_isCompiled m_classes m_numbersOf m_offsets m_useds m_tableSize m_owners m_isReached m_areApart) := hD
        refine lv_iinc (v := (v3 + (1 : Int32))) (lv' := [(3, .int (v3 + (1 : Int32))), (4, .int ((3 : Int32) * (((3 : Int32) * v2) + v3))), (0, .ref (bd 0)), (2, .int v2)]) hx hb dX4_fire_115 hl (k := 3) rfl rfl (by decide) rfl (fun ls hl => ?_)
        refine lv_goto (tgt := 67) hx hb dX4_fire_118 (by decide) ?_
        exact ih67 x112.1 x112.2.1 x112.2.2.1 x112.2.2.2.1 x112.2.2.2.2 v2 (v3 + (1 : Int32)) H locs ls hP hD hS (lv_sub hl [2, 3, 0] rfl) hf
  have L2 : ∀ n2 : Nat, ∀ (v2 : Int32) (H : Heap) (locs : List Loc) (ls : Array Slot), va_P D vwCl (MW bd cb m_thrown m_states m_timerEvents m_transitions m_froms m_events m_variables m_relations m_numbers m_nexts m_sizes m_actions m_fired m_state m_time m_values m_runs m_dues m_emitted m_output m_ignored m_isCompiled m_classes m_numbersOf m_offsets m_useds m_tableSize m_owners m_isReached m_areApart) H → va_D A (MW bd cb m_thrown m_states m_timerEvents m_transitions m_froms m_events m_variables m_relations m_numbers m_nexts m_sizes m_actions m_fired m_state m_time m_values m_runs m_dues m_emitted m_output m_ignored m_isCompiled m_classes m_numbersOf m_offsets m_useds m_tableSize m_owners m_isReached m_areApart) → va_S A s.heap H locs → lv_has ls 5 [(0, .ref (bd 0)), (1, .int v1), (2, .int v2)] → X4_fire_L2 fu m_transitions m_froms m_events m_variables m_relations m_numbers m_nexts m_sizes m_actions m_fired m_state m_time m_values m_runs m_dues m_emitted m_output m_ignored v1 n2 v2 = some o → W p l e rmX4_fire s m args below meth c H locs 0 0 Z (F0 m 2 ls []) := by
    intro n2
    induction n2 with
    | zero =>
      intro v2 H locs ls hP hD hS hl hf
      exact pr_n hf
    | succ n2 ih2 =>
      intro v2 H locs ls hP hD hS hl hf
      replace hf : X4_fire_B2 fu m_transitions m_froms m_events m_variables m_relations m_numbers m_nexts m_sizes m_actions m_fired m_state m_time m_values m_runs m_dues m_emitted m_output m_ignored v1 (X4_fire_L2 fu m_transitions m_froms m_events m_variables m_relations m_numbers m_nexts m_sizes m_actions m_fired m_state m_time m_values m_runs m_dues m_emitted m_output m_ignored v1  n2) v2 = some o := hf
      unfold X4_fire_B2 at hf
      refine lv_iload_n hx hb dX4_fire_2 rfl (lv_at hl 2 rfl) ?_
      refine lv_aload_n hx hb dX4_fire_3 rfl (lv_at hl 0 rfl) ?_
      refine va_get (D := D) (ci := 4) (v := .int m_transitions) (C := RX4) (T := TX4) (N := 30) hx hb hts hiX4 hown hK hP 0 rfl rfl 3 (by decide) f83 (fun _ h9 => h9) rfl dX4_fire_4 ?_
      refine lv_icmp_ge (tgt := 149) hx hb dX4_fire_7 (by decide) (fun hc => ?_) (fun hc => ?_)
      · have hf := pr_t hf hc
        exact B149 H locs ls hP hD hS (lv_sub hl [0] rfl) hf
      · have hf := pr_f hf hc
        refine lv_aload_n hx hb dX4_fire_10 rfl (lv_at hl 0 rfl) ?_
        refine va_get (D := D) (ci := 4) (v := .ref (bd 2)) (C := RX4) (T := TX4) (N := 30) hx hb hts hiX4 hown hK hP 0 rfl rfl 4 (by decide) f17 (fun _ h9 => h9) rfl dX4_fire_11 ?_
        refine lv_iload_n hx hb dX4_fire_14 rfl (lv_at hl 2 rfl) ?_
        obtain ⟨hi15, hf⟩ := pr_in hf
        refine va_iald hx hb hK hP 2 1 rfl rfl hi15 dX4_fire_15 ?_
        refine lv_aload_n hx hb dX4_fire_16 rfl (lv_at hl 0 rfl) ?_
        refine va_get (D := D) (ci := 4) (v := .int m_state) (C := RX4) (T := TX4) (N := 30) hx hb hts hiX4 hown hK hP 0 rfl rfl 13 (by decide) f118 (fun _ h9 => h9) rfl dX4_fire_17 ?_
        refine lv_icmp_ne (tgt := 143) hx hb dX4_fire_20 (by decide) (fun hc => ?_) (fun hc => ?_)
        · have hf := pr_f hf hc
          refine lv_iinc (v := (v2 + (1 : Int32))) (lv' := [(2, .int (v2 + (1 : Int32))), (0, .ref (bd 0)), (1, .int v1)]) hx hb dX4_fire_143 hl (k := 2) rfl rfl (by decide) rfl (fun ls hl => ?_)
          refine lv_goto (tgt := 2) hx hb dX4_fire_146 (by decide) ?_
          exact ih2 (v2 + (1 : Int32)) H locs ls hP hD hS (lv_sub hl [1, 2, 0] rfl) hf
        · have hf := pr_t hf hc
          refine lv_aload_n hx hb dX4_fire_23 rfl (lv_at hl 0 rfl) ?_
          refine va_get (D := D) (ci := 4) (v := .ref (bd 3)) (C := RX4) (T := TX4) (N := 30) hx hb hts hiX4 hown hK hP 0 rfl rfl 5 (by decide) f20 (fun _ h9 => h9) rfl dX4_fire_24 ?_
          refine lv_iload_n hx hb dX4_fire_27 rfl (lv_at hl 2 rfl) ?_
          refine va_iald hx hb hK hP 3 2 rfl rfl hi15 dX4_fire_28 ?_
          refine lv_iload_n hx hb dX4_fire_29 rfl (lv_at hl 1 rfl) ?_
          refine lv_icmp_ne (tgt := 143) hx hb dX4_fire_30 (by decide) (fun hc => ?_) (fun hc => ?_)
          · have hf := pr_f hf hc
            refine lv_iinc (v := (v2 + (1 : Int32))) (lv' := [(2, .int (v2 + (1 : Int32))), (0, .ref (bd 0)), (1, .int v1)]) hx hb dX4_fire_143 hl (k := 2) rfl rfl (by decide) rfl (fun ls hl => ?_)
            refine lv_goto (tgt := 2) hx hb dX4_fire_146 (by decide) ?_
            exact ih2 (v2 + (1 : Int32)) H locs ls hP hD hS (lv_sub hl [1, 2, 0] rfl) hf
          · have hf := pr_t hf hc
            refine lv_aload_n hx hb dX4_fire_33 rfl (lv_at hl 0 rfl) ?_
            refine va_get (D := D) (ci := 4) (v := .ref (bd 4)) (C := RX4) (T := TX4) (N := 30) hx hb hts hiX4 hown hK hP 0 rfl rfl 6 (by decide) f23 (fun _ h9 => h9) rfl dX4_fire_34 ?_
            refine lv_iload_n hx hb dX4_fire_37 rfl (lv_at hl 2 rfl) ?_
            refine va_iald hx hb hK hP 4 3 rfl rfl hi15 dX4_fire_38 ?_
            refine lv_iconst (v := (-1 : Int32)) hx hb dX4_fire_39 (by decide) ?_
            refine lv_icmp_eq (tgt := 65) hx hb dX4_fire_40 (by decide) (fun hc => ?_) (fun hc => ?_)
            · have hf := pr_t hf hc
              refine lv_iconst (v := (0 : Int32)) hx hb dX4_fire_65 (by decide) ?_
              refine lv_istore_n (lv' := [(3, .int (0 : Int32)), (0, .ref (bd 0)), (1, .int v1), (2, .int v2)]) hx hb dX4_fire_66 rfl hl (by decide) rfl (fun ls hl => ?_)
              exact L67 fu m_values m_runs m_dues m_emitted m_output v2 (0 : Int32) H locs ls hP hD hS (lv_sub hl [1, 3, 0] rfl) hf
            · have hf := pr_f hf hc
              refine lv_aload_n hx hb dX4_fire_43 rfl (lv_at hl 0 rfl) ?_
              refine lv_iload_n hx hb dX4_fire_44 rfl (lv_at hl 2 rfl) ?_
              refine lv_aload_n hx hb dX4_fire_45 rfl (lv_at hl 0 rfl) ?_
              refine va_get (D := D) (ci := 4) (v := .ref (bd 11)) (C := RX4) (T := TX4) (N := 30) hx hb hts hiX4 hown hK hP 0 rfl rfl 15 (by decide) f44 (fun _ h9 => h9) rfl dX4_fire_46 ?_
              refine lv_aload_n hx hb dX4_fire_49 rfl (lv_at hl 0 rfl) ?_
              refine va_get (D := D) (ci := 4) (v := .ref (bd 4)) (C := RX4) (T := TX4) (N := 30) hx hb hts hiX4 hown hK hP 0 rfl rfl 6 (by decide) f23 (fun _ h9 => h9) rfl dX4_fire_50 ?_
              refine lv_iload_n hx hb dX4_fire_53 rfl (lv_at hl 2 rfl) ?_
              refine va_iald hx hb hK hP 4 3 rfl rfl hi15 dX4_fire_54 ?_
              obtain ⟨hi55, hf⟩ := pr_in hf
              refine va_iald hx hb hK hP 11 10 rfl rfl hi55 dX4_fire_55 ?_
              obtain ⟨x56, hg56, hf⟩ := pr_b hf
              refine pw_cViW (b := bd 0) (As := [.int v2, .int (m_values (m_variables v2.toNatClampNeg).toNatClampNeg)]) (rest := []) ⟨hx, hb, hml, hown, hts⟩ (c_X4_isTrue (D := D) m_thrown m_states m_timerEvents m_transitions m_froms m_events m_variables m_relations m_numbers m_nexts m_sizes m_actions m_fired m_state m_time m_values m_runs m_dues m_emitted m_output m_ignored m_isCompiled m_classes m_numbersOf m_offsets m_useds m_tableSize m_owners m_isReached m_areApart v2 (m_values (m_variables v2.toNatClampNeg).toNatClampNeg) hg56) (cwV 2 hts gX4_fire_X4_isTrue rfl rfl rfl (by decide +kernel) ⟨Nat.le_of_ble_eq_true rfl, Nat.le_of_ble_eq_true rfl⟩) 0 4 rfl rfl hK hP hD hS hA rfl hl.1 rfl (Nat.le_of_ble_eq_true rfl) dX4_fire_56 ⟨Nat.le_of_ble_eq_true rfl, Nat.le_of_ble_eq_true rfl⟩ (fun H locs hP hD hS => ?_)
              refine lv_if_ne (tgt := 65) hx hb dX4_fire_59 (by decide) (fun hc => ?_) (fun hc => ?_)
              · have hf := pr_f hf hc
                refine lv_iconst (v := (0 : Int32)) hx hb dX4_fire_65 (by decide) ?_
                refine lv_istore_n (lv' := [(3, .int (0 : Int32)), (0, .ref (bd 0)), (1, .int v1), (2, .int v2)]) hx hb dX4_fire_66 rfl hl (by decide) rfl (fun ls hl => ?_)
                exact L67 fu m_values m_runs m_dues m_emitted m_output v2 (0 : Int32) H locs ls hP hD hS (lv_sub hl [1, 3, 0] rfl) hf
              · have hf := pr_t hf hc
                refine lv_goto (tgt := 143) hx hb dX4_fire_62 (by decide) ?_
                refine lv_iinc (v := (v2 + (1 : Int32))) (lv' := [(2, .int (v2 + (1 : Int32))), (0, .ref (bd 0)), (1, .int v1)]) hx hb dX4_fire_143 hl (k := 2) rfl rfl (by decide) rfl (fun ls hl => ?_)
                refine lv_goto (tgt := 2) hx hb dX4_fire_146 (by decide) ?_
                exact ih2 (v2 + (1 : Int32)) H locs ls hP hD hS (lv_sub hl [1, 2, 0] rfl) hf
  unfold X4_fire at hf
  refine lv_iconst (v := (0 : Int32)) hx hb dX4_fire_0 (by decide) ?_
  refine lv_istore_n (lv' := [(2, .int (0 : Int32)), (0, .ref (bd 0)), (1, .int v1)]) hx hb dX4_fire_1 rfl hl (by decide) rfl (fun ls hl => ?_)
  exact L2 fu (0 : Int32) H locs ls hP hD hS (lv_sub hl [1, 2, 0] rfl) hf
abbrev rmX4_happen : Room := { frames := 3, cells := 0, slots := 0, locals := 68 }
set_option maxHeartbeats 4000000 in
set_option maxRecDepth 100000 in
theorem c_X4_happen {l : Launch} {D : va_G} {bd : Nat → Nat} {cb : Nat → ClassId} (fu : Nat) (m_thrown m_states : Int32) (m_timerEvents : Nat → Int32) (m_transitions : Int32) (m_froms m_events m_variables m_relations m_numbers m_nexts m_sizes m_actions m_fired : Nat → Int32) (m_state : Int32) (m_time : Int64) (m_values m_runs : Nat → Int32) (m_dues : Nat → Int64) (m_emitted : Int32) (m_output : Nat → Int32) (m_ignored m_isCompiled m_classes : Int32) (m_numbersOf m_offsets m_useds : Nat → Int32) (m_tableSize : Int32) (m_owners m_isReached m_areApart : Nat → Int32) (v1 : Int32) {o : Int32 × Int32 × (Nat → Int32) × Int32 × (Nat → Int32) × (Nat → Int32) × (Nat → Int64) × Int32 × (Nat → Int32) × Int32} (hf : X4_happen fu m_thrown m_transitions m_froms m_events m_variables m_relations m_numbers m_nexts m_sizes m_actions m_fired m_state m_time m_values m_runs m_dues m_emitted m_output m_ignored v1 = some o) : Ci l yX4_happen wsX4_happen rmX4_happen D (MT cb) (MW bd cb m_thrown m_states m_timerEvents m_transitions m_froms m_events m_variables m_relations m_numbers m_nexts m_sizes m_actions m_fired m_state m_time m_values m_runs m_dues m_emitted m_output m_ignored m_isCompiled m_classes m_numbersOf m_offsets m_useds m_tableSize m_owners m_isReached m_areApart) [.ref (bd 0), .int v1] o.1 (MW bd cb o.2.1 m_states m_timerEvents m_transitions m_froms m_events m_variables m_relations m_numbers m_nexts m_sizes m_actions o.2.2.1 o.2.2.2.1 m_time o.2.2.2.2.1 o.2.2.2.2.2.1 o.2.2.2.2.2.2.1 o.2.2.2.2.2.2.2.1 o.2.2.2.2.2.2.2.2.1 o.2.2.2.2.2.2.2.2.2 m_isCompiled m_classes m_numbersOf m_offsets m_useds m_tableSize m_owners m_isReached m_areApart) := by
  intro sz
  refine pw_entry (Qc := fun A => pw_Qi D (MT cb) (MW bd cb o.2.1 m_states m_timerEvents m_transitions m_froms m_events m_variables m_relations m_numbers m_nexts m_sizes m_actions o.2.2.1 o.2.2.2.1 m_time o.2.2.2.2.1 o.2.2.2.2.2.1 o.2.2.2.2.2.2.1 o.2.2.2.2.2.2.2.1 o.2.2.2.2.2.2.2.2.1 o.2.2.2.2.2.2.2.2.2 m_isCompiled m_classes m_numbersOf m_offsets m_useds m_tableSize m_owners m_isReached m_areApart) A o.1) (cc := cX4_happen) (maxL := 2) (ret := (some .int)) (by decide) rfl (Nat.le_of_ble_eq_true rfl) ?_ sz
  intro p e s m args below meth c A ls Z H locs hx hb hr hlocks hts hown hml hnm hK hP hD hS hA hl hZ
  have hown : s.vm.findClass RX4 = some m.cls := hown
  have hiX4 : ∀ w ∈ u_ws RX4 TX4 30, w ∈ wsX4_happen := by decide +kernel
  have f76 := hts (.fieldLink RX4 76 "ProtocolMachineModel" "thrown" "I") (by decide +kernel)
  have hl : lv_has ls 2 [(0, .ref (bd 0)), (1, .int v1)] := hl
  unfold X4_happen at hf
  refine lv_aload_n hx hb dX4_happen_0 rfl (lv_at hl 0 rfl) ?_
  refine lv_iconst (v := (0 : Int32)) hx hb dX4_happen_1 (by decide) ?_
  refine va_put (D := D) (ci := 4) (v := .int (0 : Int32)) (ty := .int) (C := RX4) (T := TX4) (N := 30) hx hb hts hiX4 tyX4 tyX4_ok nmX4 hown hK hP hD hS 0 rfl rfl 0 (by decide) f76 (fun _ h9 => h9) rfl (by decide +kernel) rfl rfl (Nat.le_of_ble_eq_true rfl) dX4_happen_2 (fun H locs hP hD hS => ?_)
  have hP : va_P D vwCl (MW bd cb (0 : Int32) m_states m_timerEvents m_transitions m_froms m_events m_variables m_relations m_numbers m_nexts m_sizes m_actions m_fired m_state m_time m_values m_runs m_dues m_emitted m_output m_ignored m_isCompiled m_classes m_numbersOf m_offsets m_useds m_tableSize m_owners m_isReached m_areApart) H := hP
  have hD : va_D A (MW bd cb (0 : Int32) m_states m_timerEvents m_transitions m_froms m_events m_variables m_relations m_numbers m_nexts m_sizes m_actions m_fired m_state m_time m_values m_runs m_dues m_emitted m_output m_ignored m_isCompiled m_classes m_numbersOf m_offsets m_useds m_tableSize m_owners m_isReached m_areApart) := hD
  refine lv_iload_n hx hb dX4_happen_5 rfl (lv_at hl 1 rfl) ?_
  obtain ⟨x6, hg6, hf⟩ := pr_b hf
  refine pw_cSiE (As := [.int v1]) (rest := []) ⟨hx, hb, hml, hown, hts⟩ (c_X4_isEvent (D := D) (tys := (MT cb)) v1 hg6) (va_cwS 1 hts gX4_happen_X4_isEvent rfl rfl rfl (by decide +kernel) ⟨Nat.le_of_ble_eq_true rfl, Nat.le_of_ble_eq_true rfl⟩) hK hP hD hS hA rfl hl.1 rfl (Nat.le_of_ble_eq_true rfl) dX4_happen_6 ⟨Nat.le_of_ble_eq_true rfl, Nat.le_of_ble_eq_true rfl⟩ (fun H locs hP hD hS => ?_)
  refine lv_if_eq (tgt := 20) hx hb dX4_happen_9 (by decide) (fun hc => ?_) (fun hc => ?_)
  · have hf := pr_t hf hc
    refine lv_aload_n hx hb dX4_happen_20 rfl (lv_at hl 0 rfl) ?_
    refine lv_iconst (v := (1 : Int32)) hx hb dX4_happen_21 (by decide) ?_
    obtain ⟨x22, hg22, hf⟩ := pr_b hf
    refine pw_cViW (b := bd 0) (As := [.int (1 : Int32)]) (rest := []) ⟨hx, hb, hml, hown, hts⟩ (c_X4_fail (D := D) (0 : Int32) m_states m_timerEvents m_transitions m_froms m_events m_variables m_relations m_numbers m_nexts m_sizes m_actions m_fired m_state m_time m_values m_runs m_dues m_emitted m_output m_ignored m_isCompiled m_classes m_numbersOf m_offsets m_useds m_tableSize m_owners m_isReached m_areApart (1 : Int32) hg22) (cwV 1 hts gX4_happen_X4_fail rfl rfl rfl (by decide +kernel) ⟨Nat.le_of_ble_eq_true rfl, Nat.le_of_ble_eq_true rfl⟩) 0 4 rfl rfl hK hP hD hS hA rfl hl.1 rfl (Nat.le_of_ble_eq_true rfl) dX4_happen_22 ⟨Nat.le_of_ble_eq_true rfl, Nat.le_of_ble_eq_true rfl⟩ (fun H locs hP hD hS => ?_)
    have hP : va_P D vwCl (MW bd cb x22.2 m_states m_timerEvents m_transitions m_froms m_events m_variables m_relations m_numbers m_nexts m_sizes m_actions m_fired m_state m_time m_values m_runs m_dues m_emitted m_output m_ignored m_isCompiled m_classes m_numbersOf m_offsets m_useds m_tableSize m_owners m_isReached m_areApart) H := hP
    have hD : va_D A (MW bd cb x22.2 m_states m_timerEvents m_transitions m_froms m_events m_variables m_relations m_numbers m_nexts m_sizes m_actions m_fired m_state m_time m_values m_runs m_dues m_emitted m_output m_ignored m_isCompiled m_classes m_numbersOf m_offsets m_useds m_tableSize m_owners m_isReached m_areApart) := hD
    obtain rfl := Option.some.inj hf
    subst hZ
    exact pw_ri hx hb hr hlocks hK hP hD hS (Nat.le_of_ble_eq_true rfl) (Nat.le_of_ble_eq_true rfl) dX4_happen_25
  · have hf := pr_f hf hc
    refine lv_aload_n hx hb dX4_happen_12 rfl (lv_at hl 0 rfl) ?_
    refine lv_iload_n hx hb dX4_happen_13 rfl (lv_at hl 1 rfl) ?_
    obtain ⟨x14, hg14, hf⟩ := pr_b hf
    refine pw_cViW (b := bd 0) (As := [.int v1]) (rest := []) ⟨hx, hb, hml, hown, hts⟩ (c_X4_fire fu (D := D) (0 : Int32) m_states m_timerEvents m_transitions m_froms m_events m_variables m_relations m_numbers m_nexts m_sizes m_actions m_fired m_state m_time m_values m_runs m_dues m_emitted m_output m_ignored m_isCompiled m_classes m_numbersOf m_offsets m_useds m_tableSize m_owners m_isReached m_areApart v1 hg14) (cwV 1 hts gX4_happen_X4_fire rfl rfl rfl (by decide +kernel) ⟨Nat.le_of_ble_eq_true rfl, Nat.le_of_ble_eq_true rfl⟩) 0 4 rfl rfl hK hP hD hS hA rfl hl.1 rfl (Nat.le_of_ble_eq_true rfl) dX4_happen_14 ⟨Nat.le_of_ble_eq_true rfl, Nat.le_of_ble_eq_true rfl⟩ (fun H locs hP hD hS => ?_)
    have hP : va_P D vwCl (MW bd cb (0 : Int32) m_states m_timerEvents m_transitions m_froms m_events m_variables m_relations m_numbers m_nexts m_sizes m_actions x14.2.1 x14.2.2.1 m_time x14.2.2.2.1 x14.2.2.2.2.1 x14.2.2.2.2.2.1 x14.2.2.2.2.2.2.1 x14.2.2.2.2.2.2.2.1 x14.2.2.2.2.2.2.2.2 m_isCompiled m_classes m_numbersOf m_offsets m_useds m_tableSize m_owners m_isReached m_areApart) H := hP
    have hD : va_D A (MW bd cb (0 : Int32) m_states m_timerEvents m_transitions m_froms m_events m_variables m_relations m_numbers m_nexts m_sizes m_actions x14.2.1 x14.2.2.1 m_time x14.2.2.2.1 x14.2.2.2.2.1 x14.2.2.2.2.2.1 x14.2.2.2.2.2.2.1 x14.2.2.2.2.2.2.2.1 x14.2.2.2.2.2.2.2.2 m_isCompiled m_classes m_numbersOf m_offsets m_useds m_tableSize m_owners m_isReached m_areApart) := hD
    refine lv_goto (tgt := 25) hx hb dX4_happen_17 (by decide) ?_
    obtain rfl := Option.some.inj hf
    subst hZ
    exact pw_ri hx hb hr hlocks hK hP hD hS (Nat.le_of_ble_eq_true rfl) (Nat.le_of_ble_eq_true rfl) dX4_happen_25
abbrev rmX4_nextTimer : Room := { frames := 0, cells := 0, slots := 0, locals := 0 }
set_option maxHeartbeats 4000000 in
set_option maxRecDepth 100000 in
theorem c_X4_nextTimer {l : Launch} {D : va_G} {bd : Nat → Nat} {cb : Nat → ClassId} (fu : Nat) (m_thrown m_states : Int32) (m_timerEvents : Nat → Int32) (m_transitions : Int32) (m_froms m_events m_variables m_relations m_numbers m_nexts m_sizes m_actions m_fired : Nat → Int32) (m_state : Int32) (m_time : Int64) (m_values m_runs : Nat → Int32) (m_dues : Nat → Int64) (m_emitted : Int32) (m_output : Nat → Int32) (m_ignored m_isCompiled m_classes : Int32) (m_numbersOf m_offsets m_useds : Nat → Int32) (m_tableSize : Int32) (m_owners m_isReached m_areApart : Nat → Int32) (v1 : Int64) {o : Int32} (hf : X4_nextTimer fu m_runs m_dues v1 = some o) : Ci l yX4_nextTimer wsX4_nextTimer rmX4_nextTimer D (MT cb) (MW bd cb m_thrown m_states m_timerEvents m_transitions m_froms m_events m_variables m_relations m_numbers m_nexts m_sizes m_actions m_fired m_state m_time m_values m_runs m_dues m_emitted m_output m_ignored m_isCompiled m_classes m_numbersOf m_offsets m_useds m_tableSize m_owners m_isReached m_areApart) [.ref (bd 0), .long v1] o (MW bd cb m_thrown m_states m_timerEvents m_transitions m_froms m_events m_variables m_relations m_numbers m_nexts m_sizes m_actions m_fired m_state m_time m_values m_runs m_dues m_emitted m_output m_ignored m_isCompiled m_classes m_numbersOf m_offsets m_useds m_tableSize m_owners m_isReached m_areApart) := by
  intro sz
  refine pw_entry (Qc := fun A => pw_Qi D (MT cb) (MW bd cb m_thrown m_states m_timerEvents m_transitions m_froms m_events m_variables m_relations m_numbers m_nexts m_sizes m_actions m_fired m_state m_time m_values m_runs m_dues m_emitted m_output m_ignored m_isCompiled m_classes m_numbersOf m_offsets m_useds m_tableSize m_owners m_isReached m_areApart) A o) (cc := cX4_nextTimer) (maxL := 5) (ret := (some .int)) (by decide) rfl (Nat.le_of_ble_eq_true rfl) ?_ sz
  intro p e s m args below meth c A ls Z H locs hx hb hr hlocks hts hown hml hnm hK hP hD hS hA hl hZ
  have hown : s.vm.findClass RX4 = some m.cls := hown
  have hiX4 : ∀ w ∈ u_ws RX4 TX4 30, w ∈ wsX4_nextTimer := by decide +kernel
  have f47 := hts (.fieldLink RX4 47 "ProtocolMachineModel" "runs" "[Z") (by decide +kernel)
  have f51 := hts (.fieldLink RX4 51 "ProtocolMachineModel" "dues" "[J") (by decide +kernel)
  have hl : lv_has ls 5 [(0, .ref (bd 0)), (1, .long v1)] := hl
  have L5 : ∀ n5 : Nat, ∀ (v3 v4 : Int32) (H : Heap) (locs : List Loc) (ls : Array Slot), va_P D vwCl (MW bd cb m_thrown m_states m_timerEvents m_transitions m_froms m_events m_variables m_relations m_numbers m_nexts m_sizes m_actions m_fired m_state m_time m_values m_runs m_dues m_emitted m_output m_ignored m_isCompiled m_classes m_numbersOf m_offsets m_useds m_tableSize m_owners m_isReached m_areApart) H → va_D A (MW bd cb m_thrown m_states m_timerEvents m_transitions m_froms m_events m_variables m_relations m_numbers m_nexts m_sizes m_actions m_fired m_state m_time m_values m_runs m_dues m_emitted m_output m_ignored m_isCompiled m_classes m_numbersOf m_offsets m_useds m_tableSize m_owners m_isReached m_areApart) → va_S A s.heap H locs → lv_has ls 5 [(0, .ref (bd 0)), (1, .long v1), (3, .int v3), (4, .int v4)] → X4_nextTimer_L5 m_runs m_dues v1 n5 v3 v4 = some o → W p l e rmX4_nextTimer s m args below meth c H locs 0 0 Z (F0 m 5 ls []) := by
    intro n5
    induction n5 with
    | zero =>
      intro v3 v4 H locs ls hP hD hS hl hf
      exact pr_n hf
    | succ n5 ih5 =>
      intro v3 v4 H locs ls hP hD hS hl hf
      replace hf : X4_nextTimer_B5 m_runs m_dues v1 (X4_nextTimer_L5 m_runs m_dues v1  n5) v3 v4 = some o := hf
      unfold X4_nextTimer_B5 at hf
      refine lv_iload hx hb dX4_nextTimer_5 (lv_at hl 3 rfl) ?_
      refine lv_iconst (v := (4 : Int32)) hx hb dX4_nextTimer_7 (by decide) ?_
      refine lv_icmp_ge (tgt := 64) hx hb dX4_nextTimer_8 (by decide) (fun hc => ?_) (fun hc => ?_)
      · have hf := pr_t hf hc
        refine lv_iload_n hx hb dX4_nextTimer_64 rfl (lv_at hl 2 rfl) ?_
        obtain rfl := Option.some.inj hf
        subst hZ
        exact pw_ri hx hb hr hlocks hK hP hD hS (Nat.le_of_ble_eq_true rfl) (Nat.le_of_ble_eq_true rfl) dX4_nextTimer_65
      · have hf := pr_f hf hc
        refine lv_aload_n hx hb dX4_nextTimer_11 rfl (lv_at hl 0 rfl) ?_
        refine va_get (D := D) (ci := 4) (v := .ref (bd 12)) (C := RX4) (T := TX4) (N := 30) hx hb hts hiX4 hown hK hP 0 rfl rfl 16 (by decide) f47 (fun _ h9 => h9) rfl dX4_nextTimer_12 ?_
        refine lv_iload hx hb dX4_nextTimer_15 (lv_at hl 3 rfl) ?_
        obtain ⟨hi17, hf⟩ := pr_in hf
        refine va_zald hx hb hK hP 12 11 rfl rfl hi17 dX4_nextTimer_17 ?_
        refine lv_if_eq (tgt := 58) hx hb dX4_nextTimer_18 (by decide) (fun hc => ?_) (fun hc => ?_)
        · have hf := pr_t hf hc
          refine lv_iinc (v := (v4 + (1 : Int32))) (lv' := [(4, .int (v4 + (1 : Int32))), (0, .ref (bd 0)), (1, .long v1), (3, .int v3)]) hx hb dX4_nextTimer_58 hl (k := 3) rfl rfl (by decide) rfl (fun ls hl => ?_)
          refine lv_goto (tgt := 5) hx hb dX4_nextTimer_61 (by decide) ?_
          exact ih5 v3 (v4 + (1 : Int32)) H locs ls hP hD hS (lv_sub hl [1, 2, 3, 0] rfl) hf
        · have hf := pr_f hf hc
          refine lv_aload_n hx hb dX4_nextTimer_21 rfl (lv_at hl 0 rfl) ?_
          refine va_get (D := D) (ci := 4) (v := .ref (bd 13)) (C := RX4) (T := TX4) (N := 30) hx hb hts hiX4 hown hK hP 0 rfl rfl 17 (by decide) f51 (fun _ h9 => h9) rfl dX4_nextTimer_22 ?_
          refine lv_iload hx hb dX4_nextTimer_25 (lv_at hl 3 rfl) ?_
          refine va_lald hx hb hK hP 13 12 rfl rfl hi17 dX4_nextTimer_27 ?_
          refine lv_lload_n hx hb dX4_nextTimer_28 rfl (lv_at hl 1 rfl) ?_
          refine W.lcmp hx hb dX4_nextTimer_29 ?_
          refine lv_if_gt (tgt := 58) hx hb dX4_nextTimer_30 (by decide) (fun hc => ?_) (fun hc => ?_)
          · have hf := pr_t hf hc
            refine lv_iinc (v := (v4 + (1 : Int32))) (lv' := [(4, .int (v4 + (1 : Int32))), (0, .ref (bd 0)), (1, .long v1), (3, .int v3)]) hx hb dX4_nextTimer_58 hl (k := 3) rfl rfl (by decide) rfl (fun ls hl => ?_)
            refine lv_goto (tgt := 5) hx hb dX4_nextTimer_61 (by decide) ?_
            exact ih5 v3 (v4 + (1 : Int32)) H locs ls hP hD hS (lv_sub hl [1, 2, 3, 0] rfl) hf
          · have hf := pr_f hf hc
            refine lv_iload_n hx hb dX4_nextTimer_33 rfl (lv_at hl 2 rfl) ?_
            refine lv_iconst (v := (-1 : Int32)) hx hb dX4_nextTimer_34 (by decide) ?_
            refine lv_icmp_eq (tgt := 55) hx hb dX4_nextTimer_35 (by decide) (fun hc => ?_) (fun hc => ?_)
            · have hf := pr_t hf hc
              refine lv_iload hx hb dX4_nextTimer_55 (lv_at hl 3 rfl) ?_
              refine lv_istore_n (lv' := [(3, .int v4), (0, .ref (bd 0)), (1, .long v1), (4, .int v4)]) hx hb dX4_nextTimer_57 rfl hl (by decide) rfl (fun ls hl => ?_)
              refine lv_iinc (v := (v4 + (1 : Int32))) (lv' := [(4, .int (v4 + (1 : Int32))), (3, .int v4), (0, .ref (bd 0)), (1, .long v1)]) hx hb dX4_nextTimer_58 hl (k := 3) rfl rfl (by decide) rfl (fun ls hl => ?_)
              refine lv_goto (tgt := 5) hx hb dX4_nextTimer_61 (by decide) ?_
              exact ih5 v4 (v4 + (1 : Int32)) H locs ls hP hD hS (lv_sub hl [2, 3, 1, 0] rfl) hf
            · have hf := pr_f hf hc
              refine lv_aload_n hx hb dX4_nextTimer_38 rfl (lv_at hl 0 rfl) ?_
              refine va_get (D := D) (ci := 4) (v := .ref (bd 13)) (C := RX4) (T := TX4) (N := 30) hx hb hts hiX4 hown hK hP 0 rfl rfl 17 (by decide) f51 (fun _ h9 => h9) rfl dX4_nextTimer_39 ?_
              refine lv_iload hx hb dX4_nextTimer_42 (lv_at hl 3 rfl) ?_
              refine va_lald hx hb hK hP 13 12 rfl rfl hi17 dX4_nextTimer_44 ?_
              refine lv_aload_n hx hb dX4_nextTimer_45 rfl (lv_at hl 0 rfl) ?_
              refine va_get (D := D) (ci := 4) (v := .ref (bd 13)) (C := RX4) (T := TX4) (N := 30) hx hb hts hiX4 hown hK hP 0 rfl rfl 17 (by decide) f51 (fun _ h9 => h9) rfl dX4_nextTimer_46 ?_
              refine lv_iload_n hx hb dX4_nextTimer_49 rfl (lv_at hl 2 rfl) ?_
              obtain ⟨hi50, hf⟩ := pr_in hf
              refine va_lald hx hb hK hP 13 12 rfl rfl hi50 dX4_nextTimer_50 ?_
              refine W.lcmp hx hb dX4_nextTimer_51 ?_
              refine lv_if_ge (tgt := 58) hx hb dX4_nextTimer_52 (by decide) (fun hc => ?_) (fun hc => ?_)
              · have hf := pr_t hf hc
                refine lv_iinc (v := (v4 + (1 : Int32))) (lv' := [(4, .int (v4 + (1 : Int32))), (0, .ref (bd 0)), (1, .long v1), (3, .int v3)]) hx hb dX4_nextTimer_58 hl (k := 3) rfl rfl (by decide) rfl (fun ls hl => ?_)
                refine lv_goto (tgt := 5) hx hb dX4_nextTimer_61 (by decide) ?_
                exact ih5 v3 (v4 + (1 : Int32)) H locs ls hP hD hS (lv_sub hl [1, 2, 3, 0] rfl) hf
              · have hf := pr_f hf hc
                refine lv_iload hx hb dX4_nextTimer_55 (lv_at hl 3 rfl) ?_
                refine lv_istore_n (lv' := [(3, .int v4), (0, .ref (bd 0)), (1, .long v1), (4, .int v4)]) hx hb dX4_nextTimer_57 rfl hl (by decide) rfl (fun ls hl => ?_)
                refine lv_iinc (v := (v4 + (1 : Int32))) (lv' := [(4, .int (v4 + (1 : Int32))), (3, .int v4), (0, .ref (bd 0)), (1, .long v1)]) hx hb dX4_nextTimer_58 hl (k := 3) rfl rfl (by decide) rfl (fun ls hl => ?_)
                refine lv_goto (tgt := 5) hx hb dX4_nextTimer_61 (by decide) ?_
                exact ih5 v4 (v4 + (1 : Int32)) H locs ls hP hD hS (lv_sub hl [2, 3, 1, 0] rfl) hf
  unfold X4_nextTimer at hf
  refine lv_iconst (v := (-1 : Int32)) hx hb dX4_nextTimer_0 (by decide) ?_
  refine lv_istore_n (lv' := [(3, .int (-1 : Int32)), (0, .ref (bd 0)), (1, .long v1)]) hx hb dX4_nextTimer_1 rfl hl (by decide) rfl (fun ls hl => ?_)
  refine lv_iconst (v := (0 : Int32)) hx hb dX4_nextTimer_2 (by decide) ?_
  refine lv_istore (lv' := [(4, .int (0 : Int32)), (3, .int (-1 : Int32)), (0, .ref (bd 0)), (1, .long v1)]) hx hb dX4_nextTimer_3 hl (by decide) rfl (fun ls hl => ?_)
  exact L5 fu (-1 : Int32) (0 : Int32) H locs ls hP hD hS (lv_sub hl [2, 3, 1, 0] rfl) hf
abbrev rmX4_advance : Room := { frames := 3, cells := 0, slots := 0, locals := 68 }
set_option maxHeartbeats 4000000 in
set_option maxRecDepth 100000 in
theorem c_X4_advance {l : Launch} {D : va_G} {bd : Nat → Nat} {cb : Nat → ClassId} (fu : Nat) (m_thrown m_states : Int32) (m_timerEvents : Nat → Int32) (m_transitions : Int32) (m_froms m_events m_variables m_relations m_numbers m_nexts m_sizes m_actions m_fired : Nat → Int32) (m_state : Int32) (m_time : Int64) (m_values m_runs : Nat → Int32) (m_dues : Nat → Int64) (m_emitted : Int32) (m_output : Nat → Int32) (m_ignored m_isCompiled m_classes : Int32) (m_numbersOf m_offsets m_useds : Nat → Int32) (m_tableSize : Int32) (m_owners m_isReached m_areApart : Nat → Int32) (v1 : Int32) {o : Int32 × Int32 × (Nat → Int32) × Int32 × Int64 × (Nat → Int32) × (Nat → Int32) × (Nat → Int64) × Int32 × (Nat → Int32) × Int32} (hf : X4_advance fu m_thrown m_timerEvents m_transitions m_froms m_events m_variables m_relations m_numbers m_nexts m_sizes m_actions m_fired m_state m_time m_values m_runs m_dues m_emitted m_output m_ignored v1 = some o) : Ci l yX4_advance wsX4_advance rmX4_advance D (MT cb) (MW bd cb m_thrown m_states m_timerEvents m_transitions m_froms m_events m_variables m_relations m_numbers m_nexts m_sizes m_actions m_fired m_state m_time m_values m_runs m_dues m_emitted m_output m_ignored m_isCompiled m_classes m_numbersOf m_offsets m_useds m_tableSize m_owners m_isReached m_areApart) [.ref (bd 0), .int v1] o.1 (MW bd cb o.2.1 m_states m_timerEvents m_transitions m_froms m_events m_variables m_relations m_numbers m_nexts m_sizes m_actions o.2.2.1 o.2.2.2.1 o.2.2.2.2.1 o.2.2.2.2.2.1 o.2.2.2.2.2.2.1 o.2.2.2.2.2.2.2.1 o.2.2.2.2.2.2.2.2.1 o.2.2.2.2.2.2.2.2.2.1 o.2.2.2.2.2.2.2.2.2.2 m_isCompiled m_classes m_numbersOf m_offsets m_useds m_tableSize m_owners m_isReached m_areApart) := by
  intro sz
  refine pw_entry (Qc := fun A => pw_Qi D (MT cb) (MW bd cb o.2.1 m_states m_timerEvents m_transitions m_froms m_events m_variables m_relations m_numbers m_nexts m_sizes m_actions o.2.2.1 o.2.2.2.1 o.2.2.2.2.1 o.2.2.2.2.2.1 o.2.2.2.2.2.2.1 o.2.2.2.2.2.2.2.1 o.2.2.2.2.2.2.2.2.1 o.2.2.2.2.2.2.2.2.2.1 o.2.2.2.2.2.2.2.2.2.2 m_isCompiled m_classes m_numbersOf m_offsets m_useds m_tableSize m_owners m_isReached m_areApart) A o.1) (cc := cX4_advance) (maxL := 6) (ret := (some .int)) (by decide) rfl (Nat.le_of_ble_eq_true rfl) ?_ sz
  intro p e s m args below meth c A ls Z H locs hx hb hr hlocks hts hown hml hnm hK hP hD hS hA hl hZ
  have hown : s.vm.findClass RX4 = some m.cls := hown
  have hiX4 : ∀ w ∈ u_ws RX4 TX4 30, w ∈ wsX4_advance := by decide +kernel
  have f114 := hts (.fieldLink RX4 114 "ProtocolMachineModel" "time" "J") (by decide +kernel)
  have f13 := hts (.fieldLink RX4 13 "ProtocolMachineModel" "timerEvents" "[I") (by decide +kernel)
  have f47 := hts (.fieldLink RX4 47 "ProtocolMachineModel" "runs" "[Z") (by decide +kernel)
  have f51 := hts (.fieldLink RX4 51 "ProtocolMachineModel" "dues" "[J") (by decide +kernel)
  have f76 := hts (.fieldLink RX4 76 "ProtocolMachineModel" "thrown" "I") (by decide +kernel)
  have hl : lv_has ls 6 [(0, .ref (bd 0)), (1, .int v1)] := hl
  have L40 : ∀ n40 : Nat, ∀ (m_thrown : Int32) (m_fired : Nat → Int32) (m_state : Int32) (m_time : Int64) (m_values m_runs : Nat → Int32) (m_dues : Nat → Int64) (m_emitted : Int32) (m_output : Nat → Int32) (m_ignored : Int32) (v2 : Int64) (v4 v5 : Int32) (H : Heap) (locs : List Loc) (ls : Array Slot), va_P D vwCl (MW bd cb m_thrown m_states m_timerEvents m_transitions m_froms m_events m_variables m_relations m_numbers m_nexts m_sizes m_actions m_fired m_state m_time m_values m_runs m_dues m_emitted m_output m_ignored m_isCompiled m_classes m_numbersOf m_offsets m_useds m_tableSize m_owners m_isReached m_areApart) H → va_D A (MW bd cb m_thrown m_states m_timerEvents m_transitions m_froms m_events m_variables m_relations m_numbers m_nexts m_sizes m_actions m_fired m_state m_time m_values m_runs m_dues m_emitted m_output m_ignored m_isCompiled m_classes m_numbersOf m_offsets m_useds m_tableSize m_owners m_isReached m_areApart) → va_S A s.heap H locs → lv_has ls 6 [(0, .ref (bd 0)), (2, .long v2), (4, .int v4), (5, .int v5)] → X4_advance_L40 fu m_timerEvents m_transitions m_froms m_events m_variables m_relations m_numbers m_nexts m_sizes m_actions n40 m_thrown m_fired m_state m_time m_values m_runs m_dues m_emitted m_output m_ignored v2 v4 v5 = some o → W p l e rmX4_advance s m args below meth c H locs 0 0 Z (F0 m 40 ls []) := by
    intro n40
    induction n40 with
    | zero =>
      intro m_thrown m_fired m_state m_time m_values m_runs m_dues m_emitted m_output m_ignored v2 v4 v5 H locs ls hP hD hS hl hf
      exact pr_n hf
    | succ n40 ih40 =>
      intro m_thrown m_fired m_state m_time m_values m_runs m_dues m_emitted m_output m_ignored v2 v4 v5 H locs ls hP hD hS hl hf
      replace hf : X4_advance_B40 fu m_timerEvents m_transitions m_froms m_events m_variables m_relations m_numbers m_nexts m_sizes m_actions (X4_advance_L40 fu m_timerEvents m_transitions m_froms m_events m_variables m_relations m_numbers m_nexts m_sizes m_actions  n40) m_thrown m_fired m_state m_time m_values m_runs m_dues m_emitted m_output m_ignored v2 v4 v5 = some o := hf
      unfold X4_advance_B40 at hf
      refine lv_iload hx hb dX4_advance_40 (lv_at hl 3 rfl) ?_
      refine lv_iconst (v := (-1 : Int32)) hx hb dX4_advance_42 (by decide) ?_
      refine lv_icmp_eq (tgt := 90) hx hb dX4_advance_43 (by decide) (fun hc => ?_) (fun hc => ?_)
      · have hf := pr_t hf hc
        refine lv_aload_n hx hb dX4_advance_90 rfl (lv_at hl 0 rfl) ?_
        refine lv_lload_n hx hb dX4_advance_91 rfl (lv_at hl 1 rfl) ?_
        refine va_put (D := D) (ci := 4) (v := .long v2) (ty := .long) (C := RX4) (T := TX4) (N := 30) hx hb hts hiX4 tyX4 tyX4_ok nmX4 hown hK hP hD hS 0 rfl rfl 14 (by decide) f114 (fun _ h9 => h9) rfl (by decide +kernel) rfl rfl (Nat.le_of_ble_eq_true rfl) dX4_advance_92 (fun H locs hP hD hS => ?_)
        have hP : va_P D vwCl (MW bd cb m_thrown m_states m_timerEvents m_transitions m_froms m_events m_variables m_relations m_numbers m_nexts m_sizes m_actions m_fired m_state v2 m_values m_runs m_dues m_emitted m_output m_ignored m_isCompiled m_classes m_numbersOf m_offsets m_useds m_tableSize m_owners m_isReached m_areApart) H := hP
        have hD : va_D A (MW bd cb m_thrown m_states m_timerEvents m_transitions m_froms m_events m_variables m_relations m_numbers m_nexts m_sizes m_actions m_fired m_state v2 m_values m_runs m_dues m_emitted m_output m_ignored m_isCompiled m_classes m_numbersOf m_offsets m_useds m_tableSize m_owners m_isReached m_areApart) := hD
        refine lv_iload hx hb dX4_advance_95 (lv_at hl 2 rfl) ?_
        obtain rfl := Option.some.inj hf
        subst hZ
        exact pw_ri hx hb hr hlocks hK hP hD hS (Nat.le_of_ble_eq_true rfl) (Nat.le_of_ble_eq_true rfl) dX4_advance_97
      · have hf := pr_f hf hc
        refine lv_aload_n hx hb dX4_advance_46 rfl (lv_at hl 0 rfl) ?_
        refine lv_aload_n hx hb dX4_advance_47 rfl (lv_at hl 0 rfl) ?_
        refine va_get (D := D) (ci := 4) (v := .ref (bd 13)) (C := RX4) (T := TX4) (N := 30) hx hb hts hiX4 hown hK hP 0 rfl rfl 17 (by decide) f51 (fun _ h9 => h9) rfl dX4_advance_48 ?_
        refine lv_iload hx hb dX4_advance_51 (lv_at hl 3 rfl) ?_
        obtain ⟨hi53, hf⟩ := pr_in hf
        refine va_lald hx hb hK hP 13 12 rfl rfl hi53 dX4_advance_53 ?_
        refine va_put (D := D) (ci := 4) (v := .long (m_dues v5.toNatClampNeg)) (ty := .long) (C := RX4) (T := TX4) (N := 30) hx hb hts hiX4 tyX4 tyX4_ok nmX4 hown hK hP hD hS 0 rfl rfl 14 (by decide) f114 (fun _ h9 => h9) rfl (by decide +kernel) rfl rfl (Nat.le_of_ble_eq_true rfl) dX4_advance_54 (fun H locs hP hD hS => ?_)
        have hP : va_P D vwCl (MW bd cb m_thrown m_states m_timerEvents m_transitions m_froms m_events m_variables m_relations m_numbers m_nexts m_sizes m_actions m_fired m_state (m_dues v5.toNatClampNeg) m_values m_runs m_dues m_emitted m_output m_ignored m_isCompiled m_classes m_numbersOf m_offsets m_useds m_tableSize m_owners m_isReached m_areApart) H := hP
        have hD : va_D A (MW bd cb m_thrown m_states m_timerEvents m_transitions m_froms m_events m_variables m_relations m_numbers m_nexts m_sizes m_actions m_fired m_state (m_dues v5.toNatClampNeg) m_values m_runs m_dues m_emitted m_output m_ignored m_isCompiled m_classes m_numbersOf m_offsets m_useds m_tableSize m_owners m_isReached m_areApart) := hD
        refine lv_aload_n hx hb dX4_advance_57 rfl (lv_at hl 0 rfl) ?_
        refine va_get (D := D) (ci := 4) (v := .ref (bd 12)) (C := RX4) (T := TX4) (N := 30) hx hb hts hiX4 hown hK hP 0 rfl rfl 16 (by decide) f47 (fun _ h9 => h9) rfl dX4_advance_58 ?_
        refine lv_iload hx hb dX4_advance_61 (lv_at hl 3 rfl) ?_
        refine lv_iconst (v := (0 : Int32)) hx hb dX4_advance_63 (by decide) ?_
        refine va_zast hx hb hK hP hD hS 12 11 rfl rfl hi53 dX4_advance_64 (fun H locs hP hD hS => ?_)
        have hP : va_P D vwCl (MW bd cb m_thrown m_states m_timerEvents m_transitions m_froms m_events m_variables m_relations m_numbers m_nexts m_sizes m_actions m_fired m_state (m_dues v5.toNatClampNeg) m_values (upd m_runs v5.toNatClampNeg (0 : Int32)) m_dues m_emitted m_output m_ignored m_isCompiled m_classes m_numbersOf m_offsets m_useds m_tableSize m_owners m_isReached m_areApart) H := hP
        have hD : va_D A (MW bd cb m_thrown m_states m_timerEvents m_transitions m_froms m_events m_variables m_relations m_numbers m_nexts m_sizes m_actions m_fired m_state (m_dues v5.toNatClampNeg) m_values (upd m_runs v5.toNatClampNeg (0 : Int32)) m_dues m_emitted m_output m_ignored m_isCompiled m_classes m_numbersOf m_offsets m_useds m_tableSize m_owners m_isReached m_areApart) := hD
        refine lv_aload_n hx hb dX4_advance_65 rfl (lv_at hl 0 rfl) ?_
        refine lv_aload_n hx hb dX4_advance_66 rfl (lv_at hl 0 rfl) ?_
        refine va_get (D := D) (ci := 4) (v := .ref (bd 1)) (C := RX4) (T := TX4) (N := 30) hx hb hts hiX4 hown hK hP 0 rfl rfl 2 (by decide) f13 (fun _ h9 => h9) rfl dX4_advance_67 ?_
        refine lv_iload hx hb dX4_advance_70 (lv_at hl 3 rfl) ?_
        refine va_iald hx hb hK hP 1 0 rfl rfl hi53 dX4_advance_72 ?_
        obtain ⟨x73, hg73, hf⟩ := pr_b hf
        refine pw_cViW (b := bd 0) (As := [.int (m_timerEvents v5.toNatClampNeg)]) (rest := []) ⟨hx, hb, hml, hown, hts⟩ (c_X4_fire fu (D := D) m_thrown m_states m_timerEvents m_transitions m_froms m_events m_variables m_relations m_numbers m_nexts m_sizes m_actions m_fired m_state (m_dues v5.toNatClampNeg) m_values (upd m_runs v5.toNatClampNeg (0 : Int32)) m_dues m_emitted m_output m_ignored m_isCompiled m_classes m_numbersOf m_offsets m_useds m_tableSize m_owners m_isReached m_areApart (m_timerEvents v5.toNatClampNeg) hg73) (cwV 1 hts gX4_advance_X4_fire rfl rfl rfl (by decide +kernel) ⟨Nat.le_of_ble_eq_true rfl, Nat.le_of_ble_eq_true rfl⟩) 0 4 rfl rfl hK hP hD hS hA rfl hl.1 rfl (Nat.le_of_ble_eq_true rfl) dX4_advance_73 ⟨Nat.le_of_ble_eq_true rfl, Nat.le_of_ble_eq_true rfl⟩ (fun H locs hP hD hS => ?_)
        have hP : va_P D vwCl (MW bd cb m_thrown m_states m_timerEvents m_transitions m_froms m_events m_variables m_relations m_numbers m_nexts m_sizes m_actions x73.2.1 x73.2.2.1 (m_dues v5.toNatClampNeg) x73.2.2.2.1 x73.2.2.2.2.1 x73.2.2.2.2.2.1 x73.2.2.2.2.2.2.1 x73.2.2.2.2.2.2.2.1 x73.2.2.2.2.2.2.2.2 m_isCompiled m_classes m_numbersOf m_offsets m_useds m_tableSize m_owners m_isReached m_areApart) H := hP
        have hD : va_D A (MW bd cb m_thrown m_states m_timerEvents m_transitions m_froms m_events m_variables m_relations m_numbers m_nexts m_sizes m_actions x73.2.1 x73.2.2.1 (m_dues v5.toNatClampNeg) x73.2.2.2.1 x73.2.2.2.2.1 x73.2.2.2.2.2.1 x73.2.2.2.2.2.2.1 x73.2.2.2.2.2.2.2.1 x73.2.2.2.2.2.2.2.2 m_isCompiled m_classes m_numbersOf m_offsets m_useds m_tableSize m_owners m_isReached m_areApart) := hD
        refine lv_pop hx hb dX4_advance_76 rfl ?_
        refine lv_iinc (v := (v4 + (1 : Int32))) (lv' := [(4, .int (v4 + (1 : Int32))), (0, .ref (bd 0)), (2, .long v2), (5, .int v5)]) hx hb dX4_advance_77 hl (k := 2) rfl rfl (by decide) rfl (fun ls hl => ?_)
        refine lv_aload_n hx hb dX4_advance_80 rfl (lv_at hl 1 rfl) ?_
        refine lv_lload_n hx hb dX4_advance_81 rfl (lv_at hl 2 rfl) ?_
        obtain ⟨x82, hg82, hf⟩ := pr_b hf
        refine pw_cViW (b := bd 0) (As := [.long v2]) (rest := []) ⟨hx, hb, hml, hown, hts⟩ (c_X4_nextTimer fu (D := D) m_thrown m_states m_timerEvents m_transitions m_froms m_events m_variables m_relations m_numbers m_nexts m_sizes m_actions x73.2.1 x73.2.2.1 (m_dues v5.toNatClampNeg) x73.2.2.2.1 x73.2.2.2.2.1 x73.2.2.2.2.2.1 x73.2.2.2.2.2.2.1 x73.2.2.2.2.2.2.2.1 x73.2.2.2.2.2.2.2.2 m_isCompiled m_classes m_numbersOf m_offsets m_useds m_tableSize m_owners m_isReached m_areApart v2 hg82) (cwV 1 hts gX4_advance_X4_nextTimer rfl rfl rfl (by decide +kernel) ⟨Nat.le_of_ble_eq_true rfl, Nat.le_of_ble_eq_true rfl⟩) 0 4 rfl rfl hK hP hD hS hA rfl hl.1 rfl (Nat.le_of_ble_eq_true rfl) dX4_advance_82 ⟨Nat.le_of_ble_eq_true rfl, Nat.le_of_ble_eq_true rfl⟩ (fun H locs hP hD hS => ?_)
        refine lv_istore (lv' := [(5, .int x82), (4, .int (v4 + (1 : Int32))), (0, .ref (bd 0)), (2, .long v2)]) hx hb dX4_advance_85 hl (by decide) rfl (fun ls hl => ?_)
        refine lv_goto (tgt := 40) hx hb dX4_advance_87 (by decide) ?_
        exact ih40 m_thrown x73.2.1 x73.2.2.1 (m_dues v5.toNatClampNeg) x73.2.2.2.1 x73.2.2.2.2.1 x73.2.2.2.2.2.1 x73.2.2.2.2.2.2.1 x73.2.2.2.2.2.2.2.1 x73.2.2.2.2.2.2.2.2 v2 (v4 + (1 : Int32)) x82 H locs ls hP hD hS (lv_sub hl [2, 3, 1, 0] rfl) hf
  unfold X4_advance at hf
  refine lv_aload_n hx hb dX4_advance_0 rfl (lv_at hl 0 rfl) ?_
  refine lv_iconst (v := (0 : Int32)) hx hb dX4_advance_1 (by decide) ?_
  refine va_put (D := D) (ci := 4) (v := .int (0 : Int32)) (ty := .int) (C := RX4) (T := TX4) (N := 30) hx hb hts hiX4 tyX4 tyX4_ok nmX4 hown hK hP hD hS 0 rfl rfl 0 (by decide) f76 (fun _ h9 => h9) rfl (by decide +kernel) rfl rfl (Nat.le_of_ble_eq_true rfl) dX4_advance_2 (fun H locs hP hD hS => ?_)
  have hP : va_P D vwCl (MW bd cb (0 : Int32) m_states m_timerEvents m_transitions m_froms m_events m_variables m_relations m_numbers m_nexts m_sizes m_actions m_fired m_state m_time m_values m_runs m_dues m_emitted m_output m_ignored m_isCompiled m_classes m_numbersOf m_offsets m_useds m_tableSize m_owners m_isReached m_areApart) H := hP
  have hD : va_D A (MW bd cb (0 : Int32) m_states m_timerEvents m_transitions m_froms m_events m_variables m_relations m_numbers m_nexts m_sizes m_actions m_fired m_state m_time m_values m_runs m_dues m_emitted m_output m_ignored m_isCompiled m_classes m_numbersOf m_offsets m_useds m_tableSize m_owners m_isReached m_areApart) := hD
  refine lv_iload_n hx hb dX4_advance_5 rfl (lv_at hl 1 rfl) ?_
  refine lv_iconst (v := (0 : Int32)) hx hb dX4_advance_6 (by decide) ?_
  refine lv_sipush (v := (1000 : Int32)) hx hb dX4_advance_7 (by decide) ?_
  obtain ⟨x10, hg10, hf⟩ := pr_b hf
  refine pw_cSiE (As := [.int v1, .int (0 : Int32), .int (1000 : Int32)]) (rest := []) ⟨hx, hb, hml, hown, hts⟩ (c_X4_isIn (D := D) (tys := (MT cb)) v1 (0 : Int32) (1000 : Int32) hg10) (va_cwS 3 hts gX4_advance_X4_isIn rfl rfl rfl (by decide +kernel) ⟨Nat.le_of_ble_eq_true rfl, Nat.le_of_ble_eq_true rfl⟩) hK hP hD hS hA rfl hl.1 rfl (Nat.le_of_ble_eq_true rfl) dX4_advance_10 ⟨Nat.le_of_ble_eq_true rfl, Nat.le_of_ble_eq_true rfl⟩ (fun H locs hP hD hS => ?_)
  refine lv_if_ne (tgt := 22) hx hb dX4_advance_13 (by decide) (fun hc => ?_) (fun hc => ?_)
  · have hf := pr_f hf hc
    refine lv_aload_n hx hb dX4_advance_22 rfl (lv_at hl 0 rfl) ?_
    refine va_get (D := D) (ci := 4) (v := .long m_time) (C := RX4) (T := TX4) (N := 30) hx hb hts hiX4 hown hK hP 0 rfl rfl 14 (by decide) f114 (fun _ h9 => h9) rfl dX4_advance_23 ?_
    refine lv_iload_n hx hb dX4_advance_26 rfl (lv_at hl 1 rfl) ?_
    refine lv_i2l (v := v1.toInt64) hx hb dX4_advance_27 rfl ?_
    refine lv_ladd hx hb dX4_advance_28 ?_
    refine lv_lstore_n (lv' := [(2, .long (m_time + v1.toInt64)), (0, .ref (bd 0)), (1, .int v1)]) hx hb dX4_advance_29 rfl hl (by decide) rfl (fun ls hl => ?_)
    refine lv_iconst (v := (0 : Int32)) hx hb dX4_advance_30 (by decide) ?_
    refine lv_istore (lv' := [(4, .int (0 : Int32)), (2, .long (m_time + v1.toInt64)), (0, .ref (bd 0)), (1, .int v1)]) hx hb dX4_advance_31 hl (by decide) rfl (fun ls hl => ?_)
    refine lv_aload_n hx hb dX4_advance_33 rfl (lv_at hl 2 rfl) ?_
    refine lv_lload_n hx hb dX4_advance_34 rfl (lv_at hl 1 rfl) ?_
    obtain ⟨x35, hg35, hf⟩ := pr_b hf
    refine pw_cViW (b := bd 0) (As := [.long (m_time + v1.toInt64)]) (rest := []) ⟨hx, hb, hml, hown, hts⟩ (c_X4_nextTimer fu (D := D) (0 : Int32) m_states m_timerEvents m_transitions m_froms m_events m_variables m_relations m_numbers m_nexts m_sizes m_actions m_fired m_state m_time m_values m_runs m_dues m_emitted m_output m_ignored m_isCompiled m_classes m_numbersOf m_offsets m_useds m_tableSize m_owners m_isReached m_areApart (m_time + v1.toInt64) hg35) (cwV 1 hts gX4_advance_X4_nextTimer rfl rfl rfl (by decide +kernel) ⟨Nat.le_of_ble_eq_true rfl, Nat.le_of_ble_eq_true rfl⟩) 0 4 rfl rfl hK hP hD hS hA rfl hl.1 rfl (Nat.le_of_ble_eq_true rfl) dX4_advance_35 ⟨Nat.le_of_ble_eq_true rfl, Nat.le_of_ble_eq_true rfl⟩ (fun H locs hP hD hS => ?_)
    refine lv_istore (lv' := [(5, .int x35), (4, .int (0 : Int32)), (2, .long (m_time + v1.toInt64)), (0, .ref (bd 0)), (1, .int v1)]) hx hb dX4_advance_38 hl (by decide) rfl (fun ls hl => ?_)
    exact L40 fu (0 : Int32) m_fired m_state m_time m_values m_runs m_dues m_emitted m_output m_ignored (m_time + v1.toInt64) (0 : Int32) x35 H locs ls hP hD hS (lv_sub hl [3, 2, 1, 0] rfl) hf
  · have hf := pr_t hf hc
    refine lv_aload_n hx hb dX4_advance_16 rfl (lv_at hl 0 rfl) ?_
    refine lv_iconst (v := (1 : Int32)) hx hb dX4_advance_17 (by decide) ?_
    obtain ⟨x18, hg18, hf⟩ := pr_b hf
    refine pw_cViW (b := bd 0) (As := [.int (1 : Int32)]) (rest := []) ⟨hx, hb, hml, hown, hts⟩ (c_X4_fail (D := D) (0 : Int32) m_states m_timerEvents m_transitions m_froms m_events m_variables m_relations m_numbers m_nexts m_sizes m_actions m_fired m_state m_time m_values m_runs m_dues m_emitted m_output m_ignored m_isCompiled m_classes m_numbersOf m_offsets m_useds m_tableSize m_owners m_isReached m_areApart (1 : Int32) hg18) (cwV 1 hts gX4_advance_X4_fail rfl rfl rfl (by decide +kernel) ⟨Nat.le_of_ble_eq_true rfl, Nat.le_of_ble_eq_true rfl⟩) 0 4 rfl rfl hK hP hD hS hA rfl hl.1 rfl (Nat.le_of_ble_eq_true rfl) dX4_advance_18 ⟨Nat.le_of_ble_eq_true rfl, Nat.le_of_ble_eq_true rfl⟩ (fun H locs hP hD hS => ?_)
    have hP : va_P D vwCl (MW bd cb x18.2 m_states m_timerEvents m_transitions m_froms m_events m_variables m_relations m_numbers m_nexts m_sizes m_actions m_fired m_state m_time m_values m_runs m_dues m_emitted m_output m_ignored m_isCompiled m_classes m_numbersOf m_offsets m_useds m_tableSize m_owners m_isReached m_areApart) H := hP
    have hD : va_D A (MW bd cb x18.2 m_states m_timerEvents m_transitions m_froms m_events m_variables m_relations m_numbers m_nexts m_sizes m_actions m_fired m_state m_time m_values m_runs m_dues m_emitted m_output m_ignored m_isCompiled m_classes m_numbersOf m_offsets m_useds m_tableSize m_owners m_isReached m_areApart) := hD
    obtain rfl := Option.some.inj hf
    subst hZ
    exact pw_ri hx hb hr hlocks hK hP hD hS (Nat.le_of_ble_eq_true rfl) (Nat.le_of_ble_eq_true rfl) dX4_advance_21
abbrev rmX4_state : Room := { frames := 0, cells := 0, slots := 0, locals := 0 }
set_option maxHeartbeats 4000000 in
set_option maxRecDepth 100000 in
theorem c_X4_state {l : Launch} {D : va_G} {bd : Nat → Nat} {cb : Nat → ClassId} (m_thrown m_states : Int32) (m_timerEvents : Nat → Int32) (m_transitions : Int32) (m_froms m_events m_variables m_relations m_numbers m_nexts m_sizes m_actions m_fired : Nat → Int32) (m_state : Int32) (m_time : Int64) (m_values m_runs : Nat → Int32) (m_dues : Nat → Int64) (m_emitted : Int32) (m_output : Nat → Int32) (m_ignored m_isCompiled m_classes : Int32) (m_numbersOf m_offsets m_useds : Nat → Int32) (m_tableSize : Int32) (m_owners m_isReached m_areApart : Nat → Int32) {o : Int32 × Int32} (hf : X4_state m_thrown m_state = some o) : Ci l yX4_state wsX4_state rmX4_state D (MT cb) (MW bd cb m_thrown m_states m_timerEvents m_transitions m_froms m_events m_variables m_relations m_numbers m_nexts m_sizes m_actions m_fired m_state m_time m_values m_runs m_dues m_emitted m_output m_ignored m_isCompiled m_classes m_numbersOf m_offsets m_useds m_tableSize m_owners m_isReached m_areApart) [.ref (bd 0)] o.1 (MW bd cb o.2 m_states m_timerEvents m_transitions m_froms m_events m_variables m_relations m_numbers m_nexts m_sizes m_actions m_fired m_state m_time m_values m_runs m_dues m_emitted m_output m_ignored m_isCompiled m_classes m_numbersOf m_offsets m_useds m_tableSize m_owners m_isReached m_areApart) := by
  intro sz
  refine pw_entry (Qc := fun A => pw_Qi D (MT cb) (MW bd cb o.2 m_states m_timerEvents m_transitions m_froms m_events m_variables m_relations m_numbers m_nexts m_sizes m_actions m_fired m_state m_time m_values m_runs m_dues m_emitted m_output m_ignored m_isCompiled m_classes m_numbersOf m_offsets m_useds m_tableSize m_owners m_isReached m_areApart) A o.1) (cc := cX4_state) (maxL := 1) (ret := (some .int)) (by decide) rfl (Nat.le_of_ble_eq_true rfl) ?_ sz
  intro p e s m args below meth c A ls Z H locs hx hb hr hlocks hts hown hml hnm hK hP hD hS hA hl hZ
  have hown : s.vm.findClass RX4 = some m.cls := hown
  have hiX4 : ∀ w ∈ u_ws RX4 TX4 30, w ∈ wsX4_state := by decide +kernel
  have f118 := hts (.fieldLink RX4 118 "ProtocolMachineModel" "state" "I") (by decide +kernel)
  have f76 := hts (.fieldLink RX4 76 "ProtocolMachineModel" "thrown" "I") (by decide +kernel)
  have hl : lv_has ls 1 [(0, .ref (bd 0))] := hl
  unfold X4_state at hf
  refine lv_aload_n hx hb dX4_state_0 rfl (lv_at hl 0 rfl) ?_
  refine lv_iconst (v := (0 : Int32)) hx hb dX4_state_1 (by decide) ?_
  refine va_put (D := D) (ci := 4) (v := .int (0 : Int32)) (ty := .int) (C := RX4) (T := TX4) (N := 30) hx hb hts hiX4 tyX4 tyX4_ok nmX4 hown hK hP hD hS 0 rfl rfl 0 (by decide) f76 (fun _ h9 => h9) rfl (by decide +kernel) rfl rfl (Nat.le_of_ble_eq_true rfl) dX4_state_2 (fun H locs hP hD hS => ?_)
  have hP : va_P D vwCl (MW bd cb (0 : Int32) m_states m_timerEvents m_transitions m_froms m_events m_variables m_relations m_numbers m_nexts m_sizes m_actions m_fired m_state m_time m_values m_runs m_dues m_emitted m_output m_ignored m_isCompiled m_classes m_numbersOf m_offsets m_useds m_tableSize m_owners m_isReached m_areApart) H := hP
  have hD : va_D A (MW bd cb (0 : Int32) m_states m_timerEvents m_transitions m_froms m_events m_variables m_relations m_numbers m_nexts m_sizes m_actions m_fired m_state m_time m_values m_runs m_dues m_emitted m_output m_ignored m_isCompiled m_classes m_numbersOf m_offsets m_useds m_tableSize m_owners m_isReached m_areApart) := hD
  refine lv_aload_n hx hb dX4_state_5 rfl (lv_at hl 0 rfl) ?_
  refine va_get (D := D) (ci := 4) (v := .int m_state) (C := RX4) (T := TX4) (N := 30) hx hb hts hiX4 hown hK hP 0 rfl rfl 13 (by decide) f118 (fun _ h9 => h9) rfl dX4_state_6 ?_
  obtain rfl := Option.some.inj hf
  subst hZ
  exact pw_ri hx hb hr hlocks hK hP hD hS (Nat.le_of_ble_eq_true rfl) (Nat.le_of_ble_eq_true rfl) dX4_state_9
abbrev rmX4_time : Room := { frames := 0, cells := 0, slots := 0, locals := 0 }
set_option maxHeartbeats 4000000 in
set_option maxRecDepth 100000 in
theorem c_X4_time {l : Launch} {D : va_G} {bd : Nat → Nat} {cb : Nat → ClassId} (m_thrown m_states : Int32) (m_timerEvents : Nat → Int32) (m_transitions : Int32) (m_froms m_events m_variables m_relations m_numbers m_nexts m_sizes m_actions m_fired : Nat → Int32) (m_state : Int32) (m_time : Int64) (m_values m_runs : Nat → Int32) (m_dues : Nat → Int64) (m_emitted : Int32) (m_output : Nat → Int32) (m_ignored m_isCompiled m_classes : Int32) (m_numbersOf m_offsets m_useds : Nat → Int32) (m_tableSize : Int32) (m_owners m_isReached m_areApart : Nat → Int32) {o : Int64 × Int32} (hf : X4_time m_thrown m_time = some o) : Cl l yX4_time wsX4_time rmX4_time D (MT cb) (MW bd cb m_thrown m_states m_timerEvents m_transitions m_froms m_events m_variables m_relations m_numbers m_nexts m_sizes m_actions m_fired m_state m_time m_values m_runs m_dues m_emitted m_output m_ignored m_isCompiled m_classes m_numbersOf m_offsets m_useds m_tableSize m_owners m_isReached m_areApart) [.ref (bd 0)] o.1 (MW bd cb o.2 m_states m_timerEvents m_transitions m_froms m_events m_variables m_relations m_numbers m_nexts m_sizes m_actions m_fired m_state m_time m_values m_runs m_dues m_emitted m_output m_ignored m_isCompiled m_classes m_numbersOf m_offsets m_useds m_tableSize m_owners m_isReached m_areApart) := by
  intro sz
  refine pw_entry (Qc := fun A => pw_Ql D (MT cb) (MW bd cb o.2 m_states m_timerEvents m_transitions m_froms m_events m_variables m_relations m_numbers m_nexts m_sizes m_actions m_fired m_state m_time m_values m_runs m_dues m_emitted m_output m_ignored m_isCompiled m_classes m_numbersOf m_offsets m_useds m_tableSize m_owners m_isReached m_areApart) A o.1) (cc := cX4_time) (maxL := 1) (ret := (some .long)) (by decide) rfl (Nat.le_of_ble_eq_true rfl) ?_ sz
  intro p e s m args below meth c A ls Z H locs hx hb hr hlocks hts hown hml hnm hK hP hD hS hA hl hZ
  have hown : s.vm.findClass RX4 = some m.cls := hown
  have hiX4 : ∀ w ∈ u_ws RX4 TX4 30, w ∈ wsX4_time := by decide +kernel
  have f114 := hts (.fieldLink RX4 114 "ProtocolMachineModel" "time" "J") (by decide +kernel)
  have f76 := hts (.fieldLink RX4 76 "ProtocolMachineModel" "thrown" "I") (by decide +kernel)
  have hl : lv_has ls 1 [(0, .ref (bd 0))] := hl
  unfold X4_time at hf
  refine lv_aload_n hx hb dX4_time_0 rfl (lv_at hl 0 rfl) ?_
  refine lv_iconst (v := (0 : Int32)) hx hb dX4_time_1 (by decide) ?_
  refine va_put (D := D) (ci := 4) (v := .int (0 : Int32)) (ty := .int) (C := RX4) (T := TX4) (N := 30) hx hb hts hiX4 tyX4 tyX4_ok nmX4 hown hK hP hD hS 0 rfl rfl 0 (by decide) f76 (fun _ h9 => h9) rfl (by decide +kernel) rfl rfl (Nat.le_of_ble_eq_true rfl) dX4_time_2 (fun H locs hP hD hS => ?_)
  have hP : va_P D vwCl (MW bd cb (0 : Int32) m_states m_timerEvents m_transitions m_froms m_events m_variables m_relations m_numbers m_nexts m_sizes m_actions m_fired m_state m_time m_values m_runs m_dues m_emitted m_output m_ignored m_isCompiled m_classes m_numbersOf m_offsets m_useds m_tableSize m_owners m_isReached m_areApart) H := hP
  have hD : va_D A (MW bd cb (0 : Int32) m_states m_timerEvents m_transitions m_froms m_events m_variables m_relations m_numbers m_nexts m_sizes m_actions m_fired m_state m_time m_values m_runs m_dues m_emitted m_output m_ignored m_isCompiled m_classes m_numbersOf m_offsets m_useds m_tableSize m_owners m_isReached m_areApart) := hD
  refine lv_aload_n hx hb dX4_time_5 rfl (lv_at hl 0 rfl) ?_
  refine va_get (D := D) (ci := 4) (v := .long m_time) (C := RX4) (T := TX4) (N := 30) hx hb hts hiX4 hown hK hP 0 rfl rfl 14 (by decide) f114 (fun _ h9 => h9) rfl dX4_time_6 ?_
  obtain rfl := Option.some.inj hf
  subst hZ
  exact pw_rl hx hb hr hlocks hK hP hD hS (Nat.le_of_ble_eq_true rfl) (Nat.le_of_ble_eq_true rfl) dX4_time_9
abbrev rmX4_value : Room := { frames := 1, cells := 0, slots := 0, locals := 22 }
set_option maxHeartbeats 4000000 in
set_option maxRecDepth 100000 in
theorem c_X4_value {l : Launch} {D : va_G} {bd : Nat → Nat} {cb : Nat → ClassId} (m_thrown m_states : Int32) (m_timerEvents : Nat → Int32) (m_transitions : Int32) (m_froms m_events m_variables m_relations m_numbers m_nexts m_sizes m_actions m_fired : Nat → Int32) (m_state : Int32) (m_time : Int64) (m_values m_runs : Nat → Int32) (m_dues : Nat → Int64) (m_emitted : Int32) (m_output : Nat → Int32) (m_ignored m_isCompiled m_classes : Int32) (m_numbersOf m_offsets m_useds : Nat → Int32) (m_tableSize : Int32) (m_owners m_isReached m_areApart : Nat → Int32) (v1 : Int32) {o : Int32 × Int32} (hf : X4_value m_thrown m_values v1 = some o) : Ci l yX4_value wsX4_value rmX4_value D (MT cb) (MW bd cb m_thrown m_states m_timerEvents m_transitions m_froms m_events m_variables m_relations m_numbers m_nexts m_sizes m_actions m_fired m_state m_time m_values m_runs m_dues m_emitted m_output m_ignored m_isCompiled m_classes m_numbersOf m_offsets m_useds m_tableSize m_owners m_isReached m_areApart) [.ref (bd 0), .int v1] o.1 (MW bd cb o.2 m_states m_timerEvents m_transitions m_froms m_events m_variables m_relations m_numbers m_nexts m_sizes m_actions m_fired m_state m_time m_values m_runs m_dues m_emitted m_output m_ignored m_isCompiled m_classes m_numbersOf m_offsets m_useds m_tableSize m_owners m_isReached m_areApart) := by
  intro sz
  refine pw_entry (Qc := fun A => pw_Qi D (MT cb) (MW bd cb o.2 m_states m_timerEvents m_transitions m_froms m_events m_variables m_relations m_numbers m_nexts m_sizes m_actions m_fired m_state m_time m_values m_runs m_dues m_emitted m_output m_ignored m_isCompiled m_classes m_numbersOf m_offsets m_useds m_tableSize m_owners m_isReached m_areApart) A o.1) (cc := cX4_value) (maxL := 2) (ret := (some .int)) (by decide) rfl (Nat.le_of_ble_eq_true rfl) ?_ sz
  intro p e s m args below meth c A ls Z H locs hx hb hr hlocks hts hown hml hnm hK hP hD hS hA hl hZ
  have hown : s.vm.findClass RX4 = some m.cls := hown
  have hiX4 : ∀ w ∈ u_ws RX4 TX4 30, w ∈ wsX4_value := by decide +kernel
  have f44 := hts (.fieldLink RX4 44 "ProtocolMachineModel" "values" "[I") (by decide +kernel)
  have f76 := hts (.fieldLink RX4 76 "ProtocolMachineModel" "thrown" "I") (by decide +kernel)
  have hl : lv_has ls 2 [(0, .ref (bd 0)), (1, .int v1)] := hl
  unfold X4_value at hf
  refine lv_aload_n hx hb dX4_value_0 rfl (lv_at hl 0 rfl) ?_
  refine lv_iconst (v := (0 : Int32)) hx hb dX4_value_1 (by decide) ?_
  refine va_put (D := D) (ci := 4) (v := .int (0 : Int32)) (ty := .int) (C := RX4) (T := TX4) (N := 30) hx hb hts hiX4 tyX4 tyX4_ok nmX4 hown hK hP hD hS 0 rfl rfl 0 (by decide) f76 (fun _ h9 => h9) rfl (by decide +kernel) rfl rfl (Nat.le_of_ble_eq_true rfl) dX4_value_2 (fun H locs hP hD hS => ?_)
  have hP : va_P D vwCl (MW bd cb (0 : Int32) m_states m_timerEvents m_transitions m_froms m_events m_variables m_relations m_numbers m_nexts m_sizes m_actions m_fired m_state m_time m_values m_runs m_dues m_emitted m_output m_ignored m_isCompiled m_classes m_numbersOf m_offsets m_useds m_tableSize m_owners m_isReached m_areApart) H := hP
  have hD : va_D A (MW bd cb (0 : Int32) m_states m_timerEvents m_transitions m_froms m_events m_variables m_relations m_numbers m_nexts m_sizes m_actions m_fired m_state m_time m_values m_runs m_dues m_emitted m_output m_ignored m_isCompiled m_classes m_numbersOf m_offsets m_useds m_tableSize m_owners m_isReached m_areApart) := hD
  refine lv_iload_n hx hb dX4_value_5 rfl (lv_at hl 1 rfl) ?_
  refine lv_iconst (v := (0 : Int32)) hx hb dX4_value_6 (by decide) ?_
  refine lv_iconst (v := (2 : Int32)) hx hb dX4_value_7 (by decide) ?_
  obtain ⟨x8, hg8, hf⟩ := pr_b hf
  refine pw_cSiE (As := [.int v1, .int (0 : Int32), .int (2 : Int32)]) (rest := []) ⟨hx, hb, hml, hown, hts⟩ (c_X4_isIn (D := D) (tys := (MT cb)) v1 (0 : Int32) (2 : Int32) hg8) (va_cwS 3 hts gX4_value_X4_isIn rfl rfl rfl (by decide +kernel) ⟨Nat.le_of_ble_eq_true rfl, Nat.le_of_ble_eq_true rfl⟩) hK hP hD hS hA rfl hl.1 rfl (Nat.le_of_ble_eq_true rfl) dX4_value_8 ⟨Nat.le_of_ble_eq_true rfl, Nat.le_of_ble_eq_true rfl⟩ (fun H locs hP hD hS => ?_)
  refine lv_if_eq (tgt := 23) hx hb dX4_value_11 (by decide) (fun hc => ?_) (fun hc => ?_)
  · have hf := pr_t hf hc
    refine lv_aload_n hx hb dX4_value_23 rfl (lv_at hl 0 rfl) ?_
    refine lv_iconst (v := (1 : Int32)) hx hb dX4_value_24 (by decide) ?_
    obtain ⟨x25, hg25, hf⟩ := pr_b hf
    refine pw_cViW (b := bd 0) (As := [.int (1 : Int32)]) (rest := []) ⟨hx, hb, hml, hown, hts⟩ (c_X4_fail (D := D) (0 : Int32) m_states m_timerEvents m_transitions m_froms m_events m_variables m_relations m_numbers m_nexts m_sizes m_actions m_fired m_state m_time m_values m_runs m_dues m_emitted m_output m_ignored m_isCompiled m_classes m_numbersOf m_offsets m_useds m_tableSize m_owners m_isReached m_areApart (1 : Int32) hg25) (cwV 1 hts gX4_value_X4_fail rfl rfl rfl (by decide +kernel) ⟨Nat.le_of_ble_eq_true rfl, Nat.le_of_ble_eq_true rfl⟩) 0 4 rfl rfl hK hP hD hS hA rfl hl.1 rfl (Nat.le_of_ble_eq_true rfl) dX4_value_25 ⟨Nat.le_of_ble_eq_true rfl, Nat.le_of_ble_eq_true rfl⟩ (fun H locs hP hD hS => ?_)
    have hP : va_P D vwCl (MW bd cb x25.2 m_states m_timerEvents m_transitions m_froms m_events m_variables m_relations m_numbers m_nexts m_sizes m_actions m_fired m_state m_time m_values m_runs m_dues m_emitted m_output m_ignored m_isCompiled m_classes m_numbersOf m_offsets m_useds m_tableSize m_owners m_isReached m_areApart) H := hP
    have hD : va_D A (MW bd cb x25.2 m_states m_timerEvents m_transitions m_froms m_events m_variables m_relations m_numbers m_nexts m_sizes m_actions m_fired m_state m_time m_values m_runs m_dues m_emitted m_output m_ignored m_isCompiled m_classes m_numbersOf m_offsets m_useds m_tableSize m_owners m_isReached m_areApart) := hD
    obtain rfl := Option.some.inj hf
    subst hZ
    exact pw_ri hx hb hr hlocks hK hP hD hS (Nat.le_of_ble_eq_true rfl) (Nat.le_of_ble_eq_true rfl) dX4_value_28
  · have hf := pr_f hf hc
    refine lv_aload_n hx hb dX4_value_14 rfl (lv_at hl 0 rfl) ?_
    refine va_get (D := D) (ci := 4) (v := .ref (bd 11)) (C := RX4) (T := TX4) (N := 30) hx hb hts hiX4 hown hK hP 0 rfl rfl 15 (by decide) f44 (fun _ h9 => h9) rfl dX4_value_15 ?_
    refine lv_iload_n hx hb dX4_value_18 rfl (lv_at hl 1 rfl) ?_
    obtain ⟨hi19, hf⟩ := pr_in hf
    refine va_iald hx hb hK hP 11 10 rfl rfl hi19 dX4_value_19 ?_
    refine lv_goto (tgt := 28) hx hb dX4_value_20 (by decide) ?_
    obtain rfl := Option.some.inj hf
    subst hZ
    exact pw_ri hx hb hr hlocks hK hP hD hS (Nat.le_of_ble_eq_true rfl) (Nat.le_of_ble_eq_true rfl) dX4_value_28
abbrev rmX4_leftOf : Room := { frames := 0, cells := 0, slots := 0, locals := 0 }
set_option maxHeartbeats 4000000 in
set_option maxRecDepth 100000 in
theorem c_X4_leftOf {l : Launch} {D : va_G} {bd : Nat → Nat} {cb : Nat → ClassId} (m_thrown m_states : Int32) (m_timerEvents : Nat → Int32) (m_transitions : Int32) (m_froms m_events m_variables m_relations m_numbers m_nexts m_sizes m_actions m_fired : Nat → Int32) (m_state : Int32) (m_time : Int64) (m_values m_runs : Nat → Int32) (m_dues : Nat → Int64) (m_emitted : Int32) (m_output : Nat → Int32) (m_ignored m_isCompiled m_classes : Int32) (m_numbersOf m_offsets m_useds : Nat → Int32) (m_tableSize : Int32) (m_owners m_isReached m_areApart : Nat → Int32) (v1 : Int32) {o : Int32} (hf : X4_leftOf m_time m_runs m_dues v1 = some o) : Ci l yX4_leftOf wsX4_leftOf rmX4_leftOf D (MT cb) (MW bd cb m_thrown m_states m_timerEvents m_transitions m_froms m_events m_variables m_relations m_numbers m_nexts m_sizes m_actions m_fired m_state m_time m_values m_runs m_dues m_emitted m_output m_ignored m_isCompiled m_classes m_numbersOf m_offsets m_useds m_tableSize m_owners m_isReached m_areApart) [.ref (bd 0), .int v1] o (MW bd cb m_thrown m_states m_timerEvents m_transitions m_froms m_events m_variables m_relations m_numbers m_nexts m_sizes m_actions m_fired m_state m_time m_values m_runs m_dues m_emitted m_output m_ignored m_isCompiled m_classes m_numbersOf m_offsets m_useds m_tableSize m_owners m_isReached m_areApart) := by
  intro sz
  refine pw_entry (Qc := fun A => pw_Qi D (MT cb) (MW bd cb m_thrown m_states m_timerEvents m_transitions m_froms m_events m_variables m_relations m_numbers m_nexts m_sizes m_actions m_fired m_state m_time m_values m_runs m_dues m_emitted m_output m_ignored m_isCompiled m_classes m_numbersOf m_offsets m_useds m_tableSize m_owners m_isReached m_areApart) A o) (cc := cX4_leftOf) (maxL := 2) (ret := (some .int)) (by decide) rfl (Nat.le_of_ble_eq_true rfl) ?_ sz
  intro p e s m args below meth c A ls Z H locs hx hb hr hlocks hts hown hml hnm hK hP hD hS hA hl hZ
  have hown : s.vm.findClass RX4 = some m.cls := hown
  have hiX4 : ∀ w ∈ u_ws RX4 TX4 30, w ∈ wsX4_leftOf := by decide +kernel
  have f114 := hts (.fieldLink RX4 114 "ProtocolMachineModel" "time" "J") (by decide +kernel)
  have f47 := hts (.fieldLink RX4 47 "ProtocolMachineModel" "runs" "[Z") (by decide +kernel)
  have f51 := hts (.fieldLink RX4 51 "ProtocolMachineModel" "dues" "[J") (by decide +kernel)
  have hl : lv_has ls 2 [(0, .ref (bd 0)), (1, .int v1)] := hl
  unfold X4_leftOf at hf
  refine lv_aload_n hx hb dX4_leftOf_0 rfl (lv_at hl 0 rfl) ?_
  refine va_get (D := D) (ci := 4) (v := .ref (bd 12)) (C := RX4) (T := TX4) (N := 30) hx hb hts hiX4 hown hK hP 0 rfl rfl 16 (by decide) f47 (fun _ h9 => h9) rfl dX4_leftOf_1 ?_
  refine lv_iload_n hx hb dX4_leftOf_4 rfl (lv_at hl 1 rfl) ?_
  obtain ⟨hi5, hf⟩ := pr_in hf
  refine va_zald hx hb hK hP 12 11 rfl rfl hi5 dX4_leftOf_5 ?_
  refine lv_if_eq (tgt := 24) hx hb dX4_leftOf_6 (by decide) (fun hc => ?_) (fun hc => ?_)
  · have hf := pr_t hf hc
    refine lv_iconst (v := (-1 : Int32)) hx hb dX4_leftOf_24 (by decide) ?_
    obtain rfl := Option.some.inj hf
    subst hZ
    exact pw_ri hx hb hr hlocks hK hP hD hS (Nat.le_of_ble_eq_true rfl) (Nat.le_of_ble_eq_true rfl) dX4_leftOf_25
  · have hf := pr_f hf hc
    refine lv_aload_n hx hb dX4_leftOf_9 rfl (lv_at hl 0 rfl) ?_
    refine va_get (D := D) (ci := 4) (v := .ref (bd 13)) (C := RX4) (T := TX4) (N := 30) hx hb hts hiX4 hown hK hP 0 rfl rfl 17 (by decide) f51 (fun _ h9 => h9) rfl dX4_leftOf_10 ?_
    refine lv_iload_n hx hb dX4_leftOf_13 rfl (lv_at hl 1 rfl) ?_
    refine va_lald hx hb hK hP 13 12 rfl rfl hi5 dX4_leftOf_14 ?_
    refine lv_aload_n hx hb dX4_leftOf_15 rfl (lv_at hl 0 rfl) ?_
    refine va_get (D := D) (ci := 4) (v := .long m_time) (C := RX4) (T := TX4) (N := 30) hx hb hts hiX4 hown hK hP 0 rfl rfl 14 (by decide) f114 (fun _ h9 => h9) rfl dX4_leftOf_16 ?_
    refine lv_lsub hx hb dX4_leftOf_19 ?_
    refine lv_l2i (v := ((m_dues v1.toNatClampNeg) - m_time).toInt32) hx hb dX4_leftOf_20 rfl ?_
    refine lv_goto (tgt := 25) hx hb dX4_leftOf_21 (by decide) ?_
    obtain rfl := Option.some.inj hf
    subst hZ
    exact pw_ri hx hb hr hlocks hK hP hD hS (Nat.le_of_ble_eq_true rfl) (Nat.le_of_ble_eq_true rfl) dX4_leftOf_25
abbrev rmX4_left : Room := { frames := 1, cells := 0, slots := 0, locals := 22 }
set_option maxHeartbeats 4000000 in
set_option maxRecDepth 100000 in
theorem c_X4_left {l : Launch} {D : va_G} {bd : Nat → Nat} {cb : Nat → ClassId} (m_thrown m_states : Int32) (m_timerEvents : Nat → Int32) (m_transitions : Int32) (m_froms m_events m_variables m_relations m_numbers m_nexts m_sizes m_actions m_fired : Nat → Int32) (m_state : Int32) (m_time : Int64) (m_values m_runs : Nat → Int32) (m_dues : Nat → Int64) (m_emitted : Int32) (m_output : Nat → Int32) (m_ignored m_isCompiled m_classes : Int32) (m_numbersOf m_offsets m_useds : Nat → Int32) (m_tableSize : Int32) (m_owners m_isReached m_areApart : Nat → Int32) (v1 : Int32) {o : Int32 × Int32} (hf : X4_left m_thrown m_time m_runs m_dues v1 = some o) : Ci l yX4_left wsX4_left rmX4_left D (MT cb) (MW bd cb m_thrown m_states m_timerEvents m_transitions m_froms m_events m_variables m_relations m_numbers m_nexts m_sizes m_actions m_fired m_state m_time m_values m_runs m_dues m_emitted m_output m_ignored m_isCompiled m_classes m_numbersOf m_offsets m_useds m_tableSize m_owners m_isReached m_areApart) [.ref (bd 0), .int v1] o.1 (MW bd cb o.2 m_states m_timerEvents m_transitions m_froms m_events m_variables m_relations m_numbers m_nexts m_sizes m_actions m_fired m_state m_time m_values m_runs m_dues m_emitted m_output m_ignored m_isCompiled m_classes m_numbersOf m_offsets m_useds m_tableSize m_owners m_isReached m_areApart) := by
  intro sz
  refine pw_entry (Qc := fun A => pw_Qi D (MT cb) (MW bd cb o.2 m_states m_timerEvents m_transitions m_froms m_events m_variables m_relations m_numbers m_nexts m_sizes m_actions m_fired m_state m_time m_values m_runs m_dues m_emitted m_output m_ignored m_isCompiled m_classes m_numbersOf m_offsets m_useds m_tableSize m_owners m_isReached m_areApart) A o.1) (cc := cX4_left) (maxL := 2) (ret := (some .int)) (by decide) rfl (Nat.le_of_ble_eq_true rfl) ?_ sz
  intro p e s m args below meth c A ls Z H locs hx hb hr hlocks hts hown hml hnm hK hP hD hS hA hl hZ
  have hown : s.vm.findClass RX4 = some m.cls := hown
  have hiX4 : ∀ w ∈ u_ws RX4 TX4 30, w ∈ wsX4_left := by decide +kernel
  have f76 := hts (.fieldLink RX4 76 "ProtocolMachineModel" "thrown" "I") (by decide +kernel)
  have hl : lv_has ls 2 [(0, .ref (bd 0)), (1, .int v1)] := hl
  unfold X4_left at hf
  refine lv_aload_n hx hb dX4_left_0 rfl (lv_at hl 0 rfl) ?_
  refine lv_iconst (v := (0 : Int32)) hx hb dX4_left_1 (by decide) ?_
  refine va_put (D := D) (ci := 4) (v := .int (0 : Int32)) (ty := .int) (C := RX4) (T := TX4) (N := 30) hx hb hts hiX4 tyX4 tyX4_ok nmX4 hown hK hP hD hS 0 rfl rfl 0 (by decide) f76 (fun _ h9 => h9) rfl (by decide +kernel) rfl rfl (Nat.le_of_ble_eq_true rfl) dX4_left_2 (fun H locs hP hD hS => ?_)
  have hP : va_P D vwCl (MW bd cb (0 : Int32) m_states m_timerEvents m_transitions m_froms m_events m_variables m_relations m_numbers m_nexts m_sizes m_actions m_fired m_state m_time m_values m_runs m_dues m_emitted m_output m_ignored m_isCompiled m_classes m_numbersOf m_offsets m_useds m_tableSize m_owners m_isReached m_areApart) H := hP
  have hD : va_D A (MW bd cb (0 : Int32) m_states m_timerEvents m_transitions m_froms m_events m_variables m_relations m_numbers m_nexts m_sizes m_actions m_fired m_state m_time m_values m_runs m_dues m_emitted m_output m_ignored m_isCompiled m_classes m_numbersOf m_offsets m_useds m_tableSize m_owners m_isReached m_areApart) := hD
  refine lv_iload_n hx hb dX4_left_5 rfl (lv_at hl 1 rfl) ?_
  refine lv_iconst (v := (0 : Int32)) hx hb dX4_left_6 (by decide) ?_
  refine lv_iconst (v := (3 : Int32)) hx hb dX4_left_7 (by decide) ?_
  obtain ⟨x8, hg8, hf⟩ := pr_b hf
  refine pw_cSiE (As := [.int v1, .int (0 : Int32), .int (3 : Int32)]) (rest := []) ⟨hx, hb, hml, hown, hts⟩ (c_X4_isIn (D := D) (tys := (MT cb)) v1 (0 : Int32) (3 : Int32) hg8) (va_cwS 3 hts gX4_left_X4_isIn rfl rfl rfl (by decide +kernel) ⟨Nat.le_of_ble_eq_true rfl, Nat.le_of_ble_eq_true rfl⟩) hK hP hD hS hA rfl hl.1 rfl (Nat.le_of_ble_eq_true rfl) dX4_left_8 ⟨Nat.le_of_ble_eq_true rfl, Nat.le_of_ble_eq_true rfl⟩ (fun H locs hP hD hS => ?_)
  refine lv_if_eq (tgt := 22) hx hb dX4_left_11 (by decide) (fun hc => ?_) (fun hc => ?_)
  · have hf := pr_t hf hc
    refine lv_aload_n hx hb dX4_left_22 rfl (lv_at hl 0 rfl) ?_
    refine lv_iconst (v := (1 : Int32)) hx hb dX4_left_23 (by decide) ?_
    obtain ⟨x24, hg24, hf⟩ := pr_b hf
    refine pw_cViW (b := bd 0) (As := [.int (1 : Int32)]) (rest := []) ⟨hx, hb, hml, hown, hts⟩ (c_X4_fail (D := D) (0 : Int32) m_states m_timerEvents m_transitions m_froms m_events m_variables m_relations m_numbers m_nexts m_sizes m_actions m_fired m_state m_time m_values m_runs m_dues m_emitted m_output m_ignored m_isCompiled m_classes m_numbersOf m_offsets m_useds m_tableSize m_owners m_isReached m_areApart (1 : Int32) hg24) (cwV 1 hts gX4_left_X4_fail rfl rfl rfl (by decide +kernel) ⟨Nat.le_of_ble_eq_true rfl, Nat.le_of_ble_eq_true rfl⟩) 0 4 rfl rfl hK hP hD hS hA rfl hl.1 rfl (Nat.le_of_ble_eq_true rfl) dX4_left_24 ⟨Nat.le_of_ble_eq_true rfl, Nat.le_of_ble_eq_true rfl⟩ (fun H locs hP hD hS => ?_)
    have hP : va_P D vwCl (MW bd cb x24.2 m_states m_timerEvents m_transitions m_froms m_events m_variables m_relations m_numbers m_nexts m_sizes m_actions m_fired m_state m_time m_values m_runs m_dues m_emitted m_output m_ignored m_isCompiled m_classes m_numbersOf m_offsets m_useds m_tableSize m_owners m_isReached m_areApart) H := hP
    have hD : va_D A (MW bd cb x24.2 m_states m_timerEvents m_transitions m_froms m_events m_variables m_relations m_numbers m_nexts m_sizes m_actions m_fired m_state m_time m_values m_runs m_dues m_emitted m_output m_ignored m_isCompiled m_classes m_numbersOf m_offsets m_useds m_tableSize m_owners m_isReached m_areApart) := hD
    obtain rfl := Option.some.inj hf
    subst hZ
    exact pw_ri hx hb hr hlocks hK hP hD hS (Nat.le_of_ble_eq_true rfl) (Nat.le_of_ble_eq_true rfl) dX4_left_27
  · have hf := pr_f hf hc
    refine lv_aload_n hx hb dX4_left_14 rfl (lv_at hl 0 rfl) ?_
    refine lv_iload_n hx hb dX4_left_15 rfl (lv_at hl 1 rfl) ?_
    obtain ⟨x16, hg16, hf⟩ := pr_b hf
    refine pw_cViW (b := bd 0) (As := [.int v1]) (rest := []) ⟨hx, hb, hml, hown, hts⟩ (c_X4_leftOf (D := D) (0 : Int32) m_states m_timerEvents m_transitions m_froms m_events m_variables m_relations m_numbers m_nexts m_sizes m_actions m_fired m_state m_time m_values m_runs m_dues m_emitted m_output m_ignored m_isCompiled m_classes m_numbersOf m_offsets m_useds m_tableSize m_owners m_isReached m_areApart v1 hg16) (cwV 1 hts gX4_left_X4_leftOf rfl rfl rfl (by decide +kernel) ⟨Nat.le_of_ble_eq_true rfl, Nat.le_of_ble_eq_true rfl⟩) 0 4 rfl rfl hK hP hD hS hA rfl hl.1 rfl (Nat.le_of_ble_eq_true rfl) dX4_left_16 ⟨Nat.le_of_ble_eq_true rfl, Nat.le_of_ble_eq_true rfl⟩ (fun H locs hP hD hS => ?_)
    refine lv_goto (tgt := 27) hx hb dX4_left_19 (by decide) ?_
    obtain rfl := Option.some.inj hf
    subst hZ
    exact pw_ri hx hb hr hlocks hK hP hD hS (Nat.le_of_ble_eq_true rfl) (Nat.le_of_ble_eq_true rfl) dX4_left_27
abbrev rmX4_emitted : Room := { frames := 0, cells := 0, slots := 0, locals := 0 }
set_option maxHeartbeats 4000000 in
set_option maxRecDepth 100000 in
theorem c_X4_emitted {l : Launch} {D : va_G} {bd : Nat → Nat} {cb : Nat → ClassId} (m_thrown m_states : Int32) (m_timerEvents : Nat → Int32) (m_transitions : Int32) (m_froms m_events m_variables m_relations m_numbers m_nexts m_sizes m_actions m_fired : Nat → Int32) (m_state : Int32) (m_time : Int64) (m_values m_runs : Nat → Int32) (m_dues : Nat → Int64) (m_emitted : Int32) (m_output : Nat → Int32) (m_ignored m_isCompiled m_classes : Int32) (m_numbersOf m_offsets m_useds : Nat → Int32) (m_tableSize : Int32) (m_owners m_isReached m_areApart : Nat → Int32) {o : Int32 × Int32} (hf : X4_emitted m_thrown m_emitted = some o) : Ci l yX4_emitted wsX4_emitted rmX4_emitted D (MT cb) (MW bd cb m_thrown m_states m_timerEvents m_transitions m_froms m_events m_variables m_relations m_numbers m_nexts m_sizes m_actions m_fired m_state m_time m_values m_runs m_dues m_emitted m_output m_ignored m_isCompiled m_classes m_numbersOf m_offsets m_useds m_tableSize m_owners m_isReached m_areApart) [.ref (bd 0)] o.1 (MW bd cb o.2 m_states m_timerEvents m_transitions m_froms m_events m_variables m_relations m_numbers m_nexts m_sizes m_actions m_fired m_state m_time m_values m_runs m_dues m_emitted m_output m_ignored m_isCompiled m_classes m_numbersOf m_offsets m_useds m_tableSize m_owners m_isReached m_areApart) := by
  intro sz
  refine pw_entry (Qc := fun A => pw_Qi D (MT cb) (MW bd cb o.2 m_states m_timerEvents m_transitions m_froms m_events m_variables m_relations m_numbers m_nexts m_sizes m_actions m_fired m_state m_time m_values m_runs m_dues m_emitted m_output m_ignored m_isCompiled m_classes m_numbersOf m_offsets m_useds m_tableSize m_owners m_isReached m_areApart) A o.1) (cc := cX4_emitted) (maxL := 1) (ret := (some .int)) (by decide) rfl (Nat.le_of_ble_eq_true rfl) ?_ sz
  intro p e s m args below meth c A ls Z H locs hx hb hr hlocks hts hown hml hnm hK hP hD hS hA hl hZ
  have hown : s.vm.findClass RX4 = some m.cls := hown
  have hiX4 : ∀ w ∈ u_ws RX4 TX4 30, w ∈ wsX4_emitted := by decide +kernel
  have f121 := hts (.fieldLink RX4 121 "ProtocolMachineModel" "emitted" "I") (by decide +kernel)
  have f76 := hts (.fieldLink RX4 76 "ProtocolMachineModel" "thrown" "I") (by decide +kernel)
  have hl : lv_has ls 1 [(0, .ref (bd 0))] := hl
  unfold X4_emitted at hf
  refine lv_aload_n hx hb dX4_emitted_0 rfl (lv_at hl 0 rfl) ?_
  refine lv_iconst (v := (0 : Int32)) hx hb dX4_emitted_1 (by decide) ?_
  refine va_put (D := D) (ci := 4) (v := .int (0 : Int32)) (ty := .int) (C := RX4) (T := TX4) (N := 30) hx hb hts hiX4 tyX4 tyX4_ok nmX4 hown hK hP hD hS 0 rfl rfl 0 (by decide) f76 (fun _ h9 => h9) rfl (by decide +kernel) rfl rfl (Nat.le_of_ble_eq_true rfl) dX4_emitted_2 (fun H locs hP hD hS => ?_)
  have hP : va_P D vwCl (MW bd cb (0 : Int32) m_states m_timerEvents m_transitions m_froms m_events m_variables m_relations m_numbers m_nexts m_sizes m_actions m_fired m_state m_time m_values m_runs m_dues m_emitted m_output m_ignored m_isCompiled m_classes m_numbersOf m_offsets m_useds m_tableSize m_owners m_isReached m_areApart) H := hP
  have hD : va_D A (MW bd cb (0 : Int32) m_states m_timerEvents m_transitions m_froms m_events m_variables m_relations m_numbers m_nexts m_sizes m_actions m_fired m_state m_time m_values m_runs m_dues m_emitted m_output m_ignored m_isCompiled m_classes m_numbersOf m_offsets m_useds m_tableSize m_owners m_isReached m_areApart) := hD
  refine lv_aload_n hx hb dX4_emitted_5 rfl (lv_at hl 0 rfl) ?_
  refine va_get (D := D) (ci := 4) (v := .int m_emitted) (C := RX4) (T := TX4) (N := 30) hx hb hts hiX4 hown hK hP 0 rfl rfl 18 (by decide) f121 (fun _ h9 => h9) rfl dX4_emitted_6 ?_
  obtain rfl := Option.some.inj hf
  subst hZ
  exact pw_ri hx hb hr hlocks hK hP hD hS (Nat.le_of_ble_eq_true rfl) (Nat.le_of_ble_eq_true rfl) dX4_emitted_9
abbrev rmX4_output : Room := { frames := 1, cells := 0, slots := 0, locals := 22 }
set_option maxHeartbeats 4000000 in
set_option maxRecDepth 100000 in
theorem c_X4_output {l : Launch} {D : va_G} {bd : Nat → Nat} {cb : Nat → ClassId} (m_thrown m_states : Int32) (m_timerEvents : Nat → Int32) (m_transitions : Int32) (m_froms m_events m_variables m_relations m_numbers m_nexts m_sizes m_actions m_fired : Nat → Int32) (m_state : Int32) (m_time : Int64) (m_values m_runs : Nat → Int32) (m_dues : Nat → Int64) (m_emitted : Int32) (m_output : Nat → Int32) (m_ignored m_isCompiled m_classes : Int32) (m_numbersOf m_offsets m_useds : Nat → Int32) (m_tableSize : Int32) (m_owners m_isReached m_areApart : Nat → Int32) (v1 : Int32) {o : Int32 × Int32} (hf : X4_output m_thrown m_emitted m_output v1 = some o) : Ci l yX4_output wsX4_output rmX4_output D (MT cb) (MW bd cb m_thrown m_states m_timerEvents m_transitions m_froms m_events m_variables m_relations m_numbers m_nexts m_sizes m_actions m_fired m_state m_time m_values m_runs m_dues m_emitted m_output m_ignored m_isCompiled m_classes m_numbersOf m_offsets m_useds m_tableSize m_owners m_isReached m_areApart) [.ref (bd 0), .int v1] o.1 (MW bd cb o.2 m_states m_timerEvents m_transitions m_froms m_events m_variables m_relations m_numbers m_nexts m_sizes m_actions m_fired m_state m_time m_values m_runs m_dues m_emitted m_output m_ignored m_isCompiled m_classes m_numbersOf m_offsets m_useds m_tableSize m_owners m_isReached m_areApart) := by
  intro sz
  refine pw_entry (Qc := fun A => pw_Qi D (MT cb) (MW bd cb o.2 m_states m_timerEvents m_transitions m_froms m_events m_variables m_relations m_numbers m_nexts m_sizes m_actions m_fired m_state m_time m_values m_runs m_dues m_emitted m_output m_ignored m_isCompiled m_classes m_numbersOf m_offsets m_useds m_tableSize m_owners m_isReached m_areApart) A o.1) (cc := cX4_output) (maxL := 2) (ret := (some .int)) (by decide) rfl (Nat.le_of_ble_eq_true rfl) ?_ sz
  intro p e s m args below meth c A ls Z H locs hx hb hr hlocks hts hown hml hnm hK hP hD hS hA hl hZ
  have hown : s.vm.findClass RX4 = some m.cls := hown
  have hiX4 : ∀ w ∈ u_ws RX4 TX4 30, w ∈ wsX4_output := by decide +kernel
  have f121 := hts (.fieldLink RX4 121 "ProtocolMachineModel" "emitted" "I") (by decide +kernel)
  have f55 := hts (.fieldLink RX4 55 "ProtocolMachineModel" "output" "[I") (by decide +kernel)
  have f76 := hts (.fieldLink RX4 76 "ProtocolMachineModel" "thrown" "I") (by decide +kernel)
  have mc_min := hts (.code Lib.Math.min.name Lib.Math.min.code 2 (some .int)) (by decide +kernel)
  have mi := hts (.initialized "java/lang/Math") (by decide +kernel)
  have ml127 := hts (.methodLink RX4 127 Lib.Math.min.name) (by decide +kernel)
  have ms_min := hts (.static Lib.Math.min.name) (by decide +kernel)
  have hl : lv_has ls 2 [(0, .ref (bd 0)), (1, .int v1)] := hl
  unfold X4_output at hf
  refine lv_aload_n hx hb dX4_output_0 rfl (lv_at hl 0 rfl) ?_
  refine lv_iconst (v := (0 : Int32)) hx hb dX4_output_1 (by decide) ?_
  refine va_put (D := D) (ci := 4) (v := .int (0 : Int32)) (ty := .int) (C := RX4) (T := TX4) (N := 30) hx hb hts hiX4 tyX4 tyX4_ok nmX4 hown hK hP hD hS 0 rfl rfl 0 (by decide) f76 (fun _ h9 => h9) rfl (by decide +kernel) rfl rfl (Nat.le_of_ble_eq_true rfl) dX4_output_2 (fun H locs hP hD hS => ?_)
  have hP : va_P D vwCl (MW bd cb (0 : Int32) m_states m_timerEvents m_transitions m_froms m_events m_variables m_relations m_numbers m_nexts m_sizes m_actions m_fired m_state m_time m_values m_runs m_dues m_emitted m_output m_ignored m_isCompiled m_classes m_numbersOf m_offsets m_useds m_tableSize m_owners m_isReached m_areApart) H := hP
  have hD : va_D A (MW bd cb (0 : Int32) m_states m_timerEvents m_transitions m_froms m_events m_variables m_relations m_numbers m_nexts m_sizes m_actions m_fired m_state m_time m_values m_runs m_dues m_emitted m_output m_ignored m_isCompiled m_classes m_numbersOf m_offsets m_useds m_tableSize m_owners m_isReached m_areApart) := hD
  refine lv_iload_n hx hb dX4_output_5 rfl (lv_at hl 1 rfl) ?_
  refine lv_iconst (v := (0 : Int32)) hx hb dX4_output_6 (by decide) ?_
  refine lv_aload_n hx hb dX4_output_7 rfl (lv_at hl 0 rfl) ?_
  refine va_get (D := D) (ci := 4) (v := .int m_emitted) (C := RX4) (T := TX4) (N := 30) hx hb hts hiX4 hown hK hP 0 rfl rfl 18 (by decide) f121 (fun _ h9 => h9) rfl dX4_output_8 ?_
  refine lv_bipush (v := (60 : Int32)) hx hb dX4_output_11 (by decide) ?_
  refine va_mmin hx hb (hml.trans hl.1.symm) hown ml127 ms_min mi mc_min (Nat.le_of_ble_eq_true rfl) (Nat.le_of_ble_eq_true rfl) (Nat.le_of_ble_eq_true rfl) (Nat.le_of_ble_eq_true rfl) dX4_output_13 ?_
  refine lv_iconst (v := (1 : Int32)) hx hb dX4_output_16 (by decide) ?_
  refine lv_isub hx hb dX4_output_17 ?_
  obtain ⟨x18, hg18, hf⟩ := pr_b hf
  refine pw_cSiE (As := [.int v1, .int (0 : Int32), .int ((if (60 : Int32) < m_emitted then (60 : Int32) else m_emitted) - (1 : Int32))]) (rest := []) ⟨hx, hb, hml, hown, hts⟩ (c_X4_isIn (D := D) (tys := (MT cb)) v1 (0 : Int32) ((if (60 : Int32) < m_emitted then (60 : Int32) else m_emitted) - (1 : Int32)) hg18) (va_cwS 3 hts gX4_output_X4_isIn rfl rfl rfl (by decide +kernel) ⟨Nat.le_of_ble_eq_true rfl, Nat.le_of_ble_eq_true rfl⟩) hK hP hD hS hA rfl hl.1 rfl (Nat.le_of_ble_eq_true rfl) dX4_output_18 ⟨Nat.le_of_ble_eq_true rfl, Nat.le_of_ble_eq_true rfl⟩ (fun H locs hP hD hS => ?_)
  refine lv_if_eq (tgt := 33) hx hb dX4_output_21 (by decide) (fun hc => ?_) (fun hc => ?_)
  · have hf := pr_t hf hc
    refine lv_aload_n hx hb dX4_output_33 rfl (lv_at hl 0 rfl) ?_
    refine lv_iconst (v := (1 : Int32)) hx hb dX4_output_34 (by decide) ?_
    obtain ⟨x35, hg35, hf⟩ := pr_b hf
    refine pw_cViW (b := bd 0) (As := [.int (1 : Int32)]) (rest := []) ⟨hx, hb, hml, hown, hts⟩ (c_X4_fail (D := D) (0 : Int32) m_states m_timerEvents m_transitions m_froms m_events m_variables m_relations m_numbers m_nexts m_sizes m_actions m_fired m_state m_time m_values m_runs m_dues m_emitted m_output m_ignored m_isCompiled m_classes m_numbersOf m_offsets m_useds m_tableSize m_owners m_isReached m_areApart (1 : Int32) hg35) (cwV 1 hts gX4_output_X4_fail rfl rfl rfl (by decide +kernel) ⟨Nat.le_of_ble_eq_true rfl, Nat.le_of_ble_eq_true rfl⟩) 0 4 rfl rfl hK hP hD hS hA rfl hl.1 rfl (Nat.le_of_ble_eq_true rfl) dX4_output_35 ⟨Nat.le_of_ble_eq_true rfl, Nat.le_of_ble_eq_true rfl⟩ (fun H locs hP hD hS => ?_)
    have hP : va_P D vwCl (MW bd cb x35.2 m_states m_timerEvents m_transitions m_froms m_events m_variables m_relations m_numbers m_nexts m_sizes m_actions m_fired m_state m_time m_values m_runs m_dues m_emitted m_output m_ignored m_isCompiled m_classes m_numbersOf m_offsets m_useds m_tableSize m_owners m_isReached m_areApart) H := hP
    have hD : va_D A (MW bd cb x35.2 m_states m_timerEvents m_transitions m_froms m_events m_variables m_relations m_numbers m_nexts m_sizes m_actions m_fired m_state m_time m_values m_runs m_dues m_emitted m_output m_ignored m_isCompiled m_classes m_numbersOf m_offsets m_useds m_tableSize m_owners m_isReached m_areApart) := hD
    obtain rfl := Option.some.inj hf
    subst hZ
    exact pw_ri hx hb hr hlocks hK hP hD hS (Nat.le_of_ble_eq_true rfl) (Nat.le_of_ble_eq_true rfl) dX4_output_38
  · have hf := pr_f hf hc
    refine lv_aload_n hx hb dX4_output_24 rfl (lv_at hl 0 rfl) ?_
    refine va_get (D := D) (ci := 4) (v := .ref (bd 14)) (C := RX4) (T := TX4) (N := 30) hx hb hts hiX4 hown hK hP 0 rfl rfl 19 (by decide) f55 (fun _ h9 => h9) rfl dX4_output_25 ?_
    refine lv_iload_n hx hb dX4_output_28 rfl (lv_at hl 1 rfl) ?_
    obtain ⟨hi29, hf⟩ := pr_in hf
    refine va_iald hx hb hK hP 14 13 rfl rfl hi29 dX4_output_29 ?_
    refine lv_goto (tgt := 38) hx hb dX4_output_30 (by decide) ?_
    obtain rfl := Option.some.inj hf
    subst hZ
    exact pw_ri hx hb hr hlocks hK hP hD hS (Nat.le_of_ble_eq_true rfl) (Nat.le_of_ble_eq_true rfl) dX4_output_38
abbrev rmX4_fired : Room := { frames := 2, cells := 0, slots := 0, locals := 43 }
set_option maxHeartbeats 4000000 in
set_option maxRecDepth 100000 in
theorem c_X4_fired {l : Launch} {D : va_G} {bd : Nat → Nat} {cb : Nat → ClassId} (m_thrown m_states : Int32) (m_timerEvents : Nat → Int32) (m_transitions : Int32) (m_froms m_events m_variables m_relations m_numbers m_nexts m_sizes m_actions m_fired : Nat → Int32) (m_state : Int32) (m_time : Int64) (m_values m_runs : Nat → Int32) (m_dues : Nat → Int64) (m_emitted : Int32) (m_output : Nat → Int32) (m_ignored m_isCompiled m_classes : Int32) (m_numbersOf m_offsets m_useds : Nat → Int32) (m_tableSize : Int32) (m_owners m_isReached m_areApart : Nat → Int32) (v1 : Int32) {o : Int32 × Int32} (hf : X4_fired m_thrown m_transitions m_fired v1 = some o) : Ci l yX4_fired wsX4_fired rmX4_fired D (MT cb) (MW bd cb m_thrown m_states m_timerEvents m_transitions m_froms m_events m_variables m_relations m_numbers m_nexts m_sizes m_actions m_fired m_state m_time m_values m_runs m_dues m_emitted m_output m_ignored m_isCompiled m_classes m_numbersOf m_offsets m_useds m_tableSize m_owners m_isReached m_areApart) [.ref (bd 0), .int v1] o.1 (MW bd cb o.2 m_states m_timerEvents m_transitions m_froms m_events m_variables m_relations m_numbers m_nexts m_sizes m_actions m_fired m_state m_time m_values m_runs m_dues m_emitted m_output m_ignored m_isCompiled m_classes m_numbersOf m_offsets m_useds m_tableSize m_owners m_isReached m_areApart) := by
  intro sz
  refine pw_entry (Qc := fun A => pw_Qi D (MT cb) (MW bd cb o.2 m_states m_timerEvents m_transitions m_froms m_events m_variables m_relations m_numbers m_nexts m_sizes m_actions m_fired m_state m_time m_values m_runs m_dues m_emitted m_output m_ignored m_isCompiled m_classes m_numbersOf m_offsets m_useds m_tableSize m_owners m_isReached m_areApart) A o.1) (cc := cX4_fired) (maxL := 2) (ret := (some .int)) (by decide) rfl (Nat.le_of_ble_eq_true rfl) ?_ sz
  intro p e s m args below meth c A ls Z H locs hx hb hr hlocks hts hown hml hnm hK hP hD hS hA hl hZ
  have hown : s.vm.findClass RX4 = some m.cls := hown
  have hiX4 : ∀ w ∈ u_ws RX4 TX4 30, w ∈ wsX4_fired := by decide +kernel
  have f41 := hts (.fieldLink RX4 41 "ProtocolMachineModel" "fired" "[I") (by decide +kernel)
  have f76 := hts (.fieldLink RX4 76 "ProtocolMachineModel" "thrown" "I") (by decide +kernel)
  have hl : lv_has ls 2 [(0, .ref (bd 0)), (1, .int v1)] := hl
  unfold X4_fired at hf
  refine lv_aload_n hx hb dX4_fired_0 rfl (lv_at hl 0 rfl) ?_
  refine lv_iconst (v := (0 : Int32)) hx hb dX4_fired_1 (by decide) ?_
  refine va_put (D := D) (ci := 4) (v := .int (0 : Int32)) (ty := .int) (C := RX4) (T := TX4) (N := 30) hx hb hts hiX4 tyX4 tyX4_ok nmX4 hown hK hP hD hS 0 rfl rfl 0 (by decide) f76 (fun _ h9 => h9) rfl (by decide +kernel) rfl rfl (Nat.le_of_ble_eq_true rfl) dX4_fired_2 (fun H locs hP hD hS => ?_)
  have hP : va_P D vwCl (MW bd cb (0 : Int32) m_states m_timerEvents m_transitions m_froms m_events m_variables m_relations m_numbers m_nexts m_sizes m_actions m_fired m_state m_time m_values m_runs m_dues m_emitted m_output m_ignored m_isCompiled m_classes m_numbersOf m_offsets m_useds m_tableSize m_owners m_isReached m_areApart) H := hP
  have hD : va_D A (MW bd cb (0 : Int32) m_states m_timerEvents m_transitions m_froms m_events m_variables m_relations m_numbers m_nexts m_sizes m_actions m_fired m_state m_time m_values m_runs m_dues m_emitted m_output m_ignored m_isCompiled m_classes m_numbersOf m_offsets m_useds m_tableSize m_owners m_isReached m_areApart) := hD
  refine lv_aload_n hx hb dX4_fired_5 rfl (lv_at hl 0 rfl) ?_
  refine lv_iload_n hx hb dX4_fired_6 rfl (lv_at hl 1 rfl) ?_
  obtain ⟨x7, hg7, hf⟩ := pr_b hf
  refine pw_cViW (b := bd 0) (As := [.int v1]) (rest := []) ⟨hx, hb, hml, hown, hts⟩ (c_X4_isTransition (D := D) (0 : Int32) m_states m_timerEvents m_transitions m_froms m_events m_variables m_relations m_numbers m_nexts m_sizes m_actions m_fired m_state m_time m_values m_runs m_dues m_emitted m_output m_ignored m_isCompiled m_classes m_numbersOf m_offsets m_useds m_tableSize m_owners m_isReached m_areApart v1 hg7) (cwV 1 hts gX4_fired_X4_isTransition rfl rfl rfl (by decide +kernel) ⟨Nat.le_of_ble_eq_true rfl, Nat.le_of_ble_eq_true rfl⟩) 0 4 rfl rfl hK hP hD hS hA rfl hl.1 rfl (Nat.le_of_ble_eq_true rfl) dX4_fired_7 ⟨Nat.le_of_ble_eq_true rfl, Nat.le_of_ble_eq_true rfl⟩ (fun H locs hP hD hS => ?_)
  refine lv_if_eq (tgt := 22) hx hb dX4_fired_10 (by decide) (fun hc => ?_) (fun hc => ?_)
  · have hf := pr_t hf hc
    refine lv_aload_n hx hb dX4_fired_22 rfl (lv_at hl 0 rfl) ?_
    refine lv_iconst (v := (1 : Int32)) hx hb dX4_fired_23 (by decide) ?_
    obtain ⟨x24, hg24, hf⟩ := pr_b hf
    refine pw_cViW (b := bd 0) (As := [.int (1 : Int32)]) (rest := []) ⟨hx, hb, hml, hown, hts⟩ (c_X4_fail (D := D) (0 : Int32) m_states m_timerEvents m_transitions m_froms m_events m_variables m_relations m_numbers m_nexts m_sizes m_actions m_fired m_state m_time m_values m_runs m_dues m_emitted m_output m_ignored m_isCompiled m_classes m_numbersOf m_offsets m_useds m_tableSize m_owners m_isReached m_areApart (1 : Int32) hg24) (cwV 1 hts gX4_fired_X4_fail rfl rfl rfl (by decide +kernel) ⟨Nat.le_of_ble_eq_true rfl, Nat.le_of_ble_eq_true rfl⟩) 0 4 rfl rfl hK hP hD hS hA rfl hl.1 rfl (Nat.le_of_ble_eq_true rfl) dX4_fired_24 ⟨Nat.le_of_ble_eq_true rfl, Nat.le_of_ble_eq_true rfl⟩ (fun H locs hP hD hS => ?_)
    have hP : va_P D vwCl (MW bd cb x24.2 m_states m_timerEvents m_transitions m_froms m_events m_variables m_relations m_numbers m_nexts m_sizes m_actions m_fired m_state m_time m_values m_runs m_dues m_emitted m_output m_ignored m_isCompiled m_classes m_numbersOf m_offsets m_useds m_tableSize m_owners m_isReached m_areApart) H := hP
    have hD : va_D A (MW bd cb x24.2 m_states m_timerEvents m_transitions m_froms m_events m_variables m_relations m_numbers m_nexts m_sizes m_actions m_fired m_state m_time m_values m_runs m_dues m_emitted m_output m_ignored m_isCompiled m_classes m_numbersOf m_offsets m_useds m_tableSize m_owners m_isReached m_areApart) := hD
    obtain rfl := Option.some.inj hf
    subst hZ
    exact pw_ri hx hb hr hlocks hK hP hD hS (Nat.le_of_ble_eq_true rfl) (Nat.le_of_ble_eq_true rfl) dX4_fired_27
  · have hf := pr_f hf hc
    refine lv_aload_n hx hb dX4_fired_13 rfl (lv_at hl 0 rfl) ?_
    refine va_get (D := D) (ci := 4) (v := .ref (bd 10)) (C := RX4) (T := TX4) (N := 30) hx hb hts hiX4 hown hK hP 0 rfl rfl 12 (by decide) f41 (fun _ h9 => h9) rfl dX4_fired_14 ?_
    refine lv_iload_n hx hb dX4_fired_17 rfl (lv_at hl 1 rfl) ?_
    obtain ⟨hi18, hf⟩ := pr_in hf
    refine va_iald hx hb hK hP 10 9 rfl rfl hi18 dX4_fired_18 ?_
    refine lv_goto (tgt := 27) hx hb dX4_fired_19 (by decide) ?_
    obtain rfl := Option.some.inj hf
    subst hZ
    exact pw_ri hx hb hr hlocks hK hP hD hS (Nat.le_of_ble_eq_true rfl) (Nat.le_of_ble_eq_true rfl) dX4_fired_27
abbrev rmX4_ignored : Room := { frames := 0, cells := 0, slots := 0, locals := 0 }
set_option maxHeartbeats 4000000 in
set_option maxRecDepth 100000 in
theorem c_X4_ignored {l : Launch} {D : va_G} {bd : Nat → Nat} {cb : Nat → ClassId} (m_thrown m_states : Int32) (m_timerEvents : Nat → Int32) (m_transitions : Int32) (m_froms m_events m_variables m_relations m_numbers m_nexts m_sizes m_actions m_fired : Nat → Int32) (m_state : Int32) (m_time : Int64) (m_values m_runs : Nat → Int32) (m_dues : Nat → Int64) (m_emitted : Int32) (m_output : Nat → Int32) (m_ignored m_isCompiled m_classes : Int32) (m_numbersOf m_offsets m_useds : Nat → Int32) (m_tableSize : Int32) (m_owners m_isReached m_areApart : Nat → Int32) {o : Int32 × Int32} (hf : X4_ignored m_thrown m_ignored = some o) : Ci l yX4_ignored wsX4_ignored rmX4_ignored D (MT cb) (MW bd cb m_thrown m_states m_timerEvents m_transitions m_froms m_events m_variables m_relations m_numbers m_nexts m_sizes m_actions m_fired m_state m_time m_values m_runs m_dues m_emitted m_output m_ignored m_isCompiled m_classes m_numbersOf m_offsets m_useds m_tableSize m_owners m_isReached m_areApart) [.ref (bd 0)] o.1 (MW bd cb o.2 m_states m_timerEvents m_transitions m_froms m_events m_variables m_relations m_numbers m_nexts m_sizes m_actions m_fired m_state m_time m_values m_runs m_dues m_emitted m_output m_ignored m_isCompiled m_classes m_numbersOf m_offsets m_useds m_tableSize m_owners m_isReached m_areApart) := by
  intro sz
  refine pw_entry (Qc := fun A => pw_Qi D (MT cb) (MW bd cb o.2 m_states m_timerEvents m_transitions m_froms m_events m_variables m_relations m_numbers m_nexts m_sizes m_actions m_fired m_state m_time m_values m_runs m_dues m_emitted m_output m_ignored m_isCompiled m_classes m_numbersOf m_offsets m_useds m_tableSize m_owners m_isReached m_areApart) A o.1) (cc := cX4_ignored) (maxL := 1) (ret := (some .int)) (by decide) rfl (Nat.le_of_ble_eq_true rfl) ?_ sz
  intro p e s m args below meth c A ls Z H locs hx hb hr hlocks hts hown hml hnm hK hP hD hS hA hl hZ
  have hown : s.vm.findClass RX4 = some m.cls := hown
  have hiX4 : ∀ w ∈ u_ws RX4 TX4 30, w ∈ wsX4_ignored := by decide +kernel
  have f124 := hts (.fieldLink RX4 124 "ProtocolMachineModel" "ignored" "I") (by decide +kernel)
  have f76 := hts (.fieldLink RX4 76 "ProtocolMachineModel" "thrown" "I") (by decide +kernel)
  have hl : lv_has ls 1 [(0, .ref (bd 0))] := hl
  unfold X4_ignored at hf
  refine lv_aload_n hx hb dX4_ignored_0 rfl (lv_at hl 0 rfl) ?_
  refine lv_iconst (v := (0 : Int32)) hx hb dX4_ignored_1 (by decide) ?_
  refine va_put (D := D) (ci := 4) (v := .int (0 : Int32)) (ty := .int) (C := RX4) (T := TX4) (N := 30) hx hb hts hiX4 tyX4 tyX4_ok nmX4 hown hK hP hD hS 0 rfl rfl 0 (by decide) f76 (fun _ h9 => h9) rfl (by decide +kernel) rfl rfl (Nat.le_of_ble_eq_true rfl) dX4_ignored_2 (fun H locs hP hD hS => ?_)
  have hP : va_P D vwCl (MW bd cb (0 : Int32) m_states m_timerEvents m_transitions m_froms m_events m_variables m_relations m_numbers m_nexts m_sizes m_actions m_fired m_state m_time m_values m_runs m_dues m_emitted m_output m_ignored m_isCompiled m_classes m_numbersOf m_offsets m_useds m_tableSize m_owners m_isReached m_areApart) H := hP
  have hD : va_D A (MW bd cb (0 : Int32) m_states m_timerEvents m_transitions m_froms m_events m_variables m_relations m_numbers m_nexts m_sizes m_actions m_fired m_state m_time m_values m_runs m_dues m_emitted m_output m_ignored m_isCompiled m_classes m_numbersOf m_offsets m_useds m_tableSize m_owners m_isReached m_areApart) := hD
  refine lv_aload_n hx hb dX4_ignored_5 rfl (lv_at hl 0 rfl) ?_
  refine va_get (D := D) (ci := 4) (v := .int m_ignored) (C := RX4) (T := TX4) (N := 30) hx hb hts hiX4 hown hK hP 0 rfl rfl 20 (by decide) f124 (fun _ h9 => h9) rfl dX4_ignored_6 ?_
  obtain rfl := Option.some.inj hf
  subst hZ
  exact pw_ri hx hb hr hlocks hK hP hD hS (Nat.le_of_ble_eq_true rfl) (Nat.le_of_ble_eq_true rfl) dX4_ignored_9
abbrev rmX4_reach : Room := { frames := 0, cells := 0, slots := 0, locals := 0 }
set_option maxHeartbeats 4000000 in
set_option maxRecDepth 100000 in
theorem c_X4_reach {l : Launch} {D : va_G} {bd : Nat → Nat} {cb : Nat → ClassId} (fu : Nat) (m_thrown m_states : Int32) (m_timerEvents : Nat → Int32) (m_transitions : Int32) (m_froms m_events m_variables m_relations m_numbers m_nexts m_sizes m_actions m_fired : Nat → Int32) (m_state : Int32) (m_time : Int64) (m_values m_runs : Nat → Int32) (m_dues : Nat → Int64) (m_emitted : Int32) (m_output : Nat → Int32) (m_ignored m_isCompiled m_classes : Int32) (m_numbersOf m_offsets m_useds : Nat → Int32) (m_tableSize : Int32) (m_owners m_isReached m_areApart : Nat → Int32) {o : Nat → Int32} (hf : X4_reach fu m_transitions m_froms m_nexts m_isReached = some o) : Cv l yX4_reach wsX4_reach rmX4_reach D (MT cb) (MW bd cb m_thrown m_states m_timerEvents m_transitions m_froms m_events m_variables m_relations m_numbers m_nexts m_sizes m_actions m_fired m_state m_time m_values m_runs m_dues m_emitted m_output m_ignored m_isCompiled m_classes m_numbersOf m_offsets m_useds m_tableSize m_owners m_isReached m_areApart) [.ref (bd 0)] (MW bd cb m_thrown m_states m_timerEvents m_transitions m_froms m_events m_variables m_relations m_numbers m_nexts m_sizes m_actions m_fired m_state m_time m_values m_runs m_dues m_emitted m_output m_ignored m_isCompiled m_classes m_numbersOf m_offsets m_useds m_tableSize m_owners o m_areApart) := by
  intro sz
  refine pw_entry (Qc := fun A => pw_Qv D (MT cb) (MW bd cb m_thrown m_states m_timerEvents m_transitions m_froms m_events m_variables m_relations m_numbers m_nexts m_sizes m_actions m_fired m_state m_time m_values m_runs m_dues m_emitted m_output m_ignored m_isCompiled m_classes m_numbersOf m_offsets m_useds m_tableSize m_owners o m_areApart) A) (cc := cX4_reach) (maxL := 3) (ret := none) (by decide) rfl (Nat.le_of_ble_eq_true rfl) ?_ sz
  intro p e s m args below meth c A ls Z H locs hx hb hr hlocks hts hown hml hnm hK hP hD hS hA hl hZ
  have hown : s.vm.findClass RX4 = some m.cls := hown
  have hiX4 : ∀ w ∈ u_ws RX4 TX4 30, w ∈ wsX4_reach := by decide +kernel
  have f17 := hts (.fieldLink RX4 17 "ProtocolMachineModel" "froms" "[I") (by decide +kernel)
  have f32 := hts (.fieldLink RX4 32 "ProtocolMachineModel" "nexts" "[I") (by decide +kernel)
  have f70 := hts (.fieldLink RX4 70 "ProtocolMachineModel" "isReached" "[Z") (by decide +kernel)
  have f83 := hts (.fieldLink RX4 83 "ProtocolMachineModel" "transitions" "I") (by decide +kernel)
  have hl : lv_has ls 3 [(0, .ref (bd 0))] := hl
  have L31 : ∀ n31 : Nat, ∀ (m_isReached : Nat → Int32) (v1 : Int32) (H : Heap) (locs : List Loc) (ls : Array Slot), va_P D vwCl (MW bd cb m_thrown m_states m_timerEvents m_transitions m_froms m_events m_variables m_relations m_numbers m_nexts m_sizes m_actions m_fired m_state m_time m_values m_runs m_dues m_emitted m_output m_ignored m_isCompiled m_classes m_numbersOf m_offsets m_useds m_tableSize m_owners m_isReached m_areApart) H → va_D A (MW bd cb m_thrown m_states m_timerEvents m_transitions m_froms m_events m_variables m_relations m_numbers m_nexts m_sizes m_actions m_fired m_state m_time m_values m_runs m_dues m_emitted m_output m_ignored m_isCompiled m_classes m_numbersOf m_offsets m_useds m_tableSize m_owners m_isReached m_areApart) → va_S A s.heap H locs → lv_has ls 3 [(0, .ref (bd 0)), (1, .int v1)] → X4_reach_L31 fu m_transitions m_froms m_nexts n31 m_isReached v1 = some o → W p l e rmX4_reach s m args below meth c H locs 0 0 Z (F0 m 31 ls []) := by
    intro n31
    induction n31 with
    | zero =>
      intro m_isReached v1 H locs ls hP hD hS hl hf
      exact pr_n hf
    | succ n31 ih31 =>
      have L39 : ∀ n39 : Nat, ∀ (m_isReached : Nat → Int32) (v1 v2 : Int32) (H : Heap) (locs : List Loc) (ls : Array Slot), va_P D vwCl (MW bd cb m_thrown m_states m_timerEvents m_transitions m_froms m_events m_variables m_relations m_numbers m_nexts m_sizes m_actions m_fired m_state m_time m_values m_runs m_dues m_emitted m_output m_ignored m_isCompiled m_classes m_numbersOf m_offsets m_useds m_tableSize m_owners m_isReached m_areApart) H → va_D A (MW bd cb m_thrown m_states m_timerEvents m_transitions m_froms m_events m_variables m_relations m_numbers m_nexts m_sizes m_actions m_fired m_state m_time m_values m_runs m_dues m_emitted m_output m_ignored m_isCompiled m_classes m_numbersOf m_offsets m_useds m_tableSize m_owners m_isReached m_areApart) → va_S A s.heap H locs → lv_has ls 3 [(0, .ref (bd 0)), (1, .int v1), (2, .int v2)] → X4_reach_L39 m_transitions m_froms m_nexts (X4_reach_L31 fu m_transitions m_froms m_nexts n31) n39 m_isReached v1 v2 = some o → W p l e rmX4_reach s m args below meth c H locs 0 0 Z (F0 m 39 ls []) := by
        intro n39
        induction n39 with
        | zero =>
          intro m_isReached v1 v2 H locs ls hP hD hS hl hf
          exact pr_n hf
        | succ n39 ih39 =>
          intro m_isReached v1 v2 H locs ls hP hD hS hl hf
          replace hf : X4_reach_B39 m_transitions m_froms m_nexts (X4_reach_L31 fu m_transitions m_froms m_nexts  n31) (X4_reach_L39 m_transitions m_froms m_nexts (X4_reach_L31 fu m_transitions m_froms m_nexts  n31) n39) m_isReached v1 v2 = some o := hf
          unfold X4_reach_B39 at hf
          refine lv_iload_n hx hb dX4_reach_39 rfl (lv_at hl 2 rfl) ?_
          refine lv_aload_n hx hb dX4_reach_40 rfl (lv_at hl 0 rfl) ?_
          refine va_get (D := D) (ci := 4) (v := .int m_transitions) (C := RX4) (T := TX4) (N := 30) hx hb hts hiX4 hown hK hP 0 rfl rfl 3 (by decide) f83 (fun _ h9 => h9) rfl dX4_reach_41 ?_
          refine lv_icmp_ge (tgt := 79) hx hb dX4_reach_44 (by decide) (fun hc => ?_) (fun hc => ?_)
          · have hf := pr_t hf hc
            refine lv_iinc (v := (v1 + (1 : Int32))) (lv' := [(1, .int (v1 + (1 : Int32))), (0, .ref (bd 0)), (2, .int v2)]) hx hb dX4_reach_79 hl (k := 1) rfl rfl (by decide) rfl (fun ls hl => ?_)
            refine lv_goto (tgt := 31) hx hb dX4_reach_82 (by decide) ?_
            exact ih31 m_isReached (v1 + (1 : Int32)) H locs ls hP hD hS (lv_sub hl [1, 0] rfl) hf
          · have hf := pr_f hf hc
            refine lv_aload_n hx hb dX4_reach_47 rfl (lv_at hl 0 rfl) ?_
            refine va_get (D := D) (ci := 4) (v := .ref (bd 19)) (C := RX4) (T := TX4) (N := 30) hx hb hts hiX4 hown hK hP 0 rfl rfl 28 (by decide) f70 (fun _ h9 => h9) rfl dX4_reach_48 ?_
            refine lv_aload_n hx hb dX4_reach_51 rfl (lv_at hl 0 rfl) ?_
            refine va_get (D := D) (ci := 4) (v := .ref (bd 2)) (C := RX4) (T := TX4) (N := 30) hx hb hts hiX4 hown hK hP 0 rfl rfl 4 (by decide) f17 (fun _ h9 => h9) rfl dX4_reach_52 ?_
            refine lv_iload_n hx hb dX4_reach_55 rfl (lv_at hl 2 rfl) ?_
            obtain ⟨hi56, hf⟩ := pr_in hf
            refine va_iald hx hb hK hP 2 1 rfl rfl hi56 dX4_reach_56 ?_
            obtain ⟨hi57, hf⟩ := pr_in hf
            refine va_zald hx hb hK hP 19 18 rfl rfl hi57 dX4_reach_57 ?_
            refine lv_if_eq (tgt := 73) hx hb dX4_reach_58 (by decide) (fun hc => ?_) (fun hc => ?_)
            · have hf := pr_t hf hc
              refine lv_iinc (v := (v2 + (1 : Int32))) (lv' := [(2, .int (v2 + (1 : Int32))), (0, .ref (bd 0)), (1, .int v1)]) hx hb dX4_reach_73 hl (k := 2) rfl rfl (by decide) rfl (fun ls hl => ?_)
              refine lv_goto (tgt := 39) hx hb dX4_reach_76 (by decide) ?_
              exact ih39 m_isReached v1 (v2 + (1 : Int32)) H locs ls hP hD hS (lv_sub hl [1, 2, 0] rfl) hf
            · have hf := pr_f hf hc
              refine lv_aload_n hx hb dX4_reach_61 rfl (lv_at hl 0 rfl) ?_
              refine va_get (D := D) (ci := 4) (v := .ref (bd 19)) (C := RX4) (T := TX4) (N := 30) hx hb hts hiX4 hown hK hP 0 rfl rfl 28 (by decide) f70 (fun _ h9 => h9) rfl dX4_reach_62 ?_
              refine lv_aload_n hx hb dX4_reach_65 rfl (lv_at hl 0 rfl) ?_
              refine va_get (D := D) (ci := 4) (v := .ref (bd 7)) (C := RX4) (T := TX4) (N := 30) hx hb hts hiX4 hown hK hP 0 rfl rfl 9 (by decide) f32 (fun _ h9 => h9) rfl dX4_reach_66 ?_
              refine lv_iload_n hx hb dX4_reach_69 rfl (lv_at hl 2 rfl) ?_
              refine va_iald hx hb hK hP 7 6 rfl rfl hi56 dX4_reach_70 ?_
              refine lv_iconst (v := (1 : Int32)) hx hb dX4_reach_71 (by decide) ?_
              obtain ⟨hi72, hf⟩ := pr_in hf
              refine va_zast hx hb hK hP hD hS 19 18 rfl rfl hi72 dX4_reach_72 (fun H locs hP hD hS => ?_)
              have hP : va_P D vwCl (MW bd cb m_thrown m_states m_timerEvents m_transitions m_froms m_events m_variables m_relations m_numbers m_nexts m_sizes m_actions m_fired m_state m_time m_values m_runs m_dues m_emitted m_output m_ignored m_isCompiled m_classes m_numbersOf m_offsets m_useds m_tableSize m_owners (upd m_isReached (m_nexts v2.toNatClampNeg).toNatClampNeg (1 : Int32)) m_areApart) H := hP
              have hD : va_D A (MW bd cb m_thrown m_states m_timerEvents m_transitions m_froms m_events m_variables m_relations m_numbers m_nexts m_sizes m_actions m_fired m_state m_time m_values m_runs m_dues m_emitted m_output m_ignored m_isCompiled m_classes m_numbersOf m_offsets m_useds m_tableSize m_owners (upd m_isReached (m_nexts v2.toNatClampNeg).toNatClampNeg (1 : Int32)) m_areApart) := hD
              refine lv_iinc (v := (v2 + (1 : Int32))) (lv' := [(2, .int (v2 + (1 : Int32))), (0, .ref (bd 0)), (1, .int v1)]) hx hb dX4_reach_73 hl (k := 2) rfl rfl (by decide) rfl (fun ls hl => ?_)
              refine lv_goto (tgt := 39) hx hb dX4_reach_76 (by decide) ?_
              exact ih39 (upd m_isReached (m_nexts v2.toNatClampNeg).toNatClampNeg (1 : Int32)) v1 (v2 + (1 : Int32)) H locs ls hP hD hS (lv_sub hl [1, 2, 0] rfl) hf
      intro m_isReached v1 H locs ls hP hD hS hl hf
      replace hf : X4_reach_B31 fu m_transitions m_froms m_nexts (X4_reach_L31 fu m_transitions m_froms m_nexts  n31) m_isReached v1 = some o := hf
      unfold X4_reach_B31 at hf
      refine lv_iload_n hx hb dX4_reach_31 rfl (lv_at hl 1 rfl) ?_
      refine lv_bipush (v := (12 : Int32)) hx hb dX4_reach_32 (by decide) ?_
      refine lv_icmp_ge (tgt := 85) hx hb dX4_reach_34 (by decide) (fun hc => ?_) (fun hc => ?_)
      · have hf := pr_t hf hc
        obtain rfl := Option.some.inj hf
        subst hZ
        exact pw_rv hx hb hr hlocks hK hP hD hS (Nat.le_of_ble_eq_true rfl) (Nat.le_of_ble_eq_true rfl) dX4_reach_85
      · have hf := pr_f hf hc
        refine lv_iconst (v := (0 : Int32)) hx hb dX4_reach_37 (by decide) ?_
        refine lv_istore_n (lv' := [(2, .int (0 : Int32)), (0, .ref (bd 0)), (1, .int v1)]) hx hb dX4_reach_38 rfl hl (by decide) rfl (fun ls hl => ?_)
        exact L39 fu m_isReached v1 (0 : Int32) H locs ls hP hD hS (lv_sub hl [1, 2, 0] rfl) hf
  have L2 : ∀ n2 : Nat, ∀ (m_isReached : Nat → Int32) (v1 : Int32) (H : Heap) (locs : List Loc) (ls : Array Slot), va_P D vwCl (MW bd cb m_thrown m_states m_timerEvents m_transitions m_froms m_events m_variables m_relations m_numbers m_nexts m_sizes m_actions m_fired m_state m_time m_values m_runs m_dues m_emitted m_output m_ignored m_isCompiled m_classes m_numbersOf m_offsets m_useds m_tableSize m_owners m_isReached m_areApart) H → va_D A (MW bd cb m_thrown m_states m_timerEvents m_transitions m_froms m_events m_variables m_relations m_numbers m_nexts m_sizes m_actions m_fired m_state m_time m_values m_runs m_dues m_emitted m_output m_ignored m_isCompiled m_classes m_numbersOf m_offsets m_useds m_tableSize m_owners m_isReached m_areApart) → va_S A s.heap H locs → lv_has ls 3 [(0, .ref (bd 0)), (1, .int v1)] → X4_reach_L2 fu m_transitions m_froms m_nexts n2 m_isReached v1 = some o → W p l e rmX4_reach s m args below meth c H locs 0 0 Z (F0 m 2 ls []) := by
    intro n2
    induction n2 with
    | zero =>
      intro m_isReached v1 H locs ls hP hD hS hl hf
      exact pr_n hf
    | succ n2 ih2 =>
      intro m_isReached v1 H locs ls hP hD hS hl hf
      replace hf : X4_reach_B2 fu m_transitions m_froms m_nexts (X4_reach_L2 fu m_transitions m_froms m_nexts  n2) m_isReached v1 = some o := hf
      unfold X4_reach_B2 at hf
      refine lv_iload_n hx hb dX4_reach_2 rfl (lv_at hl 1 rfl) ?_
      refine lv_bipush (v := (12 : Int32)) hx hb dX4_reach_3 (by decide) ?_
      refine lv_icmp_ge (tgt := 29) hx hb dX4_reach_5 (by decide) (fun hc => ?_) (fun hc => ?_)
      · have hf := pr_t hf hc
        refine lv_iconst (v := (0 : Int32)) hx hb dX4_reach_29 (by decide) ?_
        refine lv_istore_n (lv' := [(1, .int (0 : Int32)), (0, .ref (bd 0))]) hx hb dX4_reach_30 rfl hl (by decide) rfl (fun ls hl => ?_)
        exact L31 fu m_isReached (0 : Int32) H locs ls hP hD hS (lv_sub hl [1, 0] rfl) hf
      · have hf := pr_f hf hc
        refine lv_aload_n hx hb dX4_reach_8 rfl (lv_at hl 0 rfl) ?_
        refine va_get (D := D) (ci := 4) (v := .ref (bd 19)) (C := RX4) (T := TX4) (N := 30) hx hb hts hiX4 hown hK hP 0 rfl rfl 28 (by decide) f70 (fun _ h9 => h9) rfl dX4_reach_9 ?_
        refine lv_iload_n hx hb dX4_reach_12 rfl (lv_at hl 1 rfl) ?_
        refine lv_iload_n hx hb dX4_reach_13 rfl (lv_at hl 1 rfl) ?_
        refine lv_if_ne (tgt := 21) hx hb dX4_reach_14 (by decide) (fun hc => ?_) (fun hc => ?_)
        · have hf := pr_f hf hc
          refine lv_iconst (v := (0 : Int32)) hx hb dX4_reach_21 (by decide) ?_
          obtain ⟨hi22, hf⟩ := pr_in hf
          refine va_zast hx hb hK hP hD hS 19 18 rfl rfl hi22 dX4_reach_22 (fun H locs hP hD hS => ?_)
          have hP : va_P D vwCl (MW bd cb m_thrown m_states m_timerEvents m_transitions m_froms m_events m_variables m_relations m_numbers m_nexts m_sizes m_actions m_fired m_state m_time m_values m_runs m_dues m_emitted m_output m_ignored m_isCompiled m_classes m_numbersOf m_offsets m_useds m_tableSize m_owners (upd m_isReached v1.toNatClampNeg (0 : Int32)) m_areApart) H := hP
          have hD : va_D A (MW bd cb m_thrown m_states m_timerEvents m_transitions m_froms m_events m_variables m_relations m_numbers m_nexts m_sizes m_actions m_fired m_state m_time m_values m_runs m_dues m_emitted m_output m_ignored m_isCompiled m_classes m_numbersOf m_offsets m_useds m_tableSize m_owners (upd m_isReached v1.toNatClampNeg (0 : Int32)) m_areApart) := hD
          refine lv_iinc (v := (v1 + (1 : Int32))) (lv' := [(1, .int (v1 + (1 : Int32))), (0, .ref (bd 0))]) hx hb dX4_reach_23 hl (k := 1) rfl rfl (by decide) rfl (fun ls hl => ?_)
          refine lv_goto (tgt := 2) hx hb dX4_reach_26 (by decide) ?_
          exact ih2 (upd m_isReached v1.toNatClampNeg (0 : Int32)) (v1 + (1 : Int32)) H locs ls hP hD hS (lv_sub hl [1, 0] rfl) hf
        · have hf := pr_t hf hc
          refine lv_iconst (v := (1 : Int32)) hx hb dX4_reach_17 (by decide) ?_
          refine lv_goto (tgt := 22) hx hb dX4_reach_18 (by decide) ?_
          obtain ⟨hi22, hf⟩ := pr_in hf
          refine va_zast hx hb hK hP hD hS 19 18 rfl rfl hi22 dX4_reach_22 (fun H locs hP hD hS => ?_)
          have hP : va_P D vwCl (MW bd cb m_thrown m_states m_timerEvents m_transitions m_froms m_events m_variables m_relations m_numbers m_nexts m_sizes m_actions m_fired m_state m_time m_values m_runs m_dues m_emitted m_output m_ignored m_isCompiled m_classes m_numbersOf m_offsets m_useds m_tableSize m_owners (upd m_isReached v1.toNatClampNeg (1 : Int32)) m_areApart) H := hP
          have hD : va_D A (MW bd cb m_thrown m_states m_timerEvents m_transitions m_froms m_events m_variables m_relations m_numbers m_nexts m_sizes m_actions m_fired m_state m_time m_values m_runs m_dues m_emitted m_output m_ignored m_isCompiled m_classes m_numbersOf m_offsets m_useds m_tableSize m_owners (upd m_isReached v1.toNatClampNeg (1 : Int32)) m_areApart) := hD
          refine lv_iinc (v := (v1 + (1 : Int32))) (lv' := [(1, .int (v1 + (1 : Int32))), (0, .ref (bd 0))]) hx hb dX4_reach_23 hl (k := 1) rfl rfl (by decide) rfl (fun ls hl => ?_)
          refine lv_goto (tgt := 2) hx hb dX4_reach_26 (by decide) ?_
          exact ih2 (upd m_isReached v1.toNatClampNeg (1 : Int32)) (v1 + (1 : Int32)) H locs ls hP hD hS (lv_sub hl [1, 0] rfl) hf
  unfold X4_reach at hf
  refine lv_iconst (v := (0 : Int32)) hx hb dX4_reach_0 (by decide) ?_
  refine lv_istore_n (lv' := [(1, .int (0 : Int32)), (0, .ref (bd 0))]) hx hb dX4_reach_1 rfl hl (by decide) rfl (fun ls hl => ?_)
  exact L2 fu m_isReached (0 : Int32) H locs ls hP hD hS (lv_sub hl [1, 0] rfl) hf
abbrev rmX4_transition : Room := { frames := 0, cells := 0, slots := 0, locals := 0 }
set_option maxHeartbeats 4000000 in
set_option maxRecDepth 100000 in
theorem c_X4_transition {l : Launch} {D : va_G} {bd : Nat → Nat} {cb : Nat → ClassId} (fu : Nat) (m_thrown m_states : Int32) (m_timerEvents : Nat → Int32) (m_transitions : Int32) (m_froms m_events m_variables m_relations m_numbers m_nexts m_sizes m_actions m_fired : Nat → Int32) (m_state : Int32) (m_time : Int64) (m_values m_runs : Nat → Int32) (m_dues : Nat → Int64) (m_emitted : Int32) (m_output : Nat → Int32) (m_ignored m_isCompiled m_classes : Int32) (m_numbersOf m_offsets m_useds : Nat → Int32) (m_tableSize : Int32) (m_owners m_isReached m_areApart : Nat → Int32) (v1 v2 v3 : Int32) {o : Int32} (hf : X4_transition fu m_transitions m_froms m_events v1 v2 v3 = some o) : Ci l yX4_transition wsX4_transition rmX4_transition D (MT cb) (MW bd cb m_thrown m_states m_timerEvents m_transitions m_froms m_events m_variables m_relations m_numbers m_nexts m_sizes m_actions m_fired m_state m_time m_values m_runs m_dues m_emitted m_output m_ignored m_isCompiled m_classes m_numbersOf m_offsets m_useds m_tableSize m_owners m_isReached m_areApart) [.ref (bd 0), .int v1, .int v2, .int v3] o (MW bd cb m_thrown m_states m_timerEvents m_transitions m_froms m_events m_variables m_relations m_numbers m_nexts m_sizes m_actions m_fired m_state m_time m_values m_runs m_dues m_emitted m_output m_ignored m_isCompiled m_classes m_numbersOf m_offsets m_useds m_tableSize m_owners m_isReached m_areApart) := by
  intro sz
  refine pw_entry (Qc := fun A => pw_Qi D (MT cb) (MW bd cb m_thrown m_states m_timerEvents m_transitions m_froms m_events m_variables m_relations m_numbers m_nexts m_sizes m_actions m_fired m_state m_time m_values m_runs m_dues m_emitted m_output m_ignored m_isCompiled m_classes m_numbersOf m_offsets m_useds m_tableSize m_owners m_isReached m_areApart) A o) (cc := cX4_transition) (maxL := 6) (ret := (some .int)) (by decide) rfl (Nat.le_of_ble_eq_true rfl) ?_ sz
  intro p e s m args below meth c A ls Z H locs hx hb hr hlocks hts hown hml hnm hK hP hD hS hA hl hZ
  have hown : s.vm.findClass RX4 = some m.cls := hown
  have hiX4 : ∀ w ∈ u_ws RX4 TX4 30, w ∈ wsX4_transition := by decide +kernel
  have f17 := hts (.fieldLink RX4 17 "ProtocolMachineModel" "froms" "[I") (by decide +kernel)
  have f20 := hts (.fieldLink RX4 20 "ProtocolMachineModel" "events" "[I") (by decide +kernel)
  have f83 := hts (.fieldLink RX4 83 "ProtocolMachineModel" "transitions" "I") (by decide +kernel)
  have hl : lv_has ls 6 [(0, .ref (bd 0)), (1, .int v1), (2, .int v2), (3, .int v3)] := hl
  have L6 : ∀ n6 : Nat, ∀ (v4 v5 : Int32) (H : Heap) (locs : List Loc) (ls : Array Slot), va_P D vwCl (MW bd cb m_thrown m_states m_timerEvents m_transitions m_froms m_events m_variables m_relations m_numbers m_nexts m_sizes m_actions m_fired m_state m_time m_values m_runs m_dues m_emitted m_output m_ignored m_isCompiled m_classes m_numbersOf m_offsets m_useds m_tableSize m_owners m_isReached m_areApart) H → va_D A (MW bd cb m_thrown m_states m_timerEvents m_transitions m_froms m_events m_variables m_relations m_numbers m_nexts m_sizes m_actions m_fired m_state m_time m_values m_runs m_dues m_emitted m_output m_ignored m_isCompiled m_classes m_numbersOf m_offsets m_useds m_tableSize m_owners m_isReached m_areApart) → va_S A s.heap H locs → lv_has ls 6 [(0, .ref (bd 0)), (1, .int v1), (2, .int v2), (4, .int v4), (5, .int v5)] → X4_transition_L6 m_transitions m_froms m_events v1 v2 n6 v4 v5 = some o → W p l e rmX4_transition s m args below meth c H locs 0 0 Z (F0 m 6 ls []) := by
    intro n6
    induction n6 with
    | zero =>
      intro v4 v5 H locs ls hP hD hS hl hf
      exact pr_n hf
    | succ n6 ih6 =>
      intro v4 v5 H locs ls hP hD hS hl hf
      replace hf : X4_transition_B6 m_transitions m_froms m_events v1 v2 (X4_transition_L6 m_transitions m_froms m_events v1 v2  n6) v4 v5 = some o := hf
      unfold X4_transition_B6 at hf
      refine lv_iload hx hb dX4_transition_6 (lv_at hl 4 rfl) ?_
      refine lv_aload_n hx hb dX4_transition_8 rfl (lv_at hl 0 rfl) ?_
      refine va_get (D := D) (ci := 4) (v := .int m_transitions) (C := RX4) (T := TX4) (N := 30) hx hb hts hiX4 hown hK hP 0 rfl rfl 3 (by decide) f83 (fun _ h9 => h9) rfl dX4_transition_9 ?_
      refine lv_icmp_ge (tgt := 57) hx hb dX4_transition_12 (by decide) (fun hc => ?_) (fun hc => ?_)
      · have hf := pr_t hf hc
        refine lv_iconst (v := (-1 : Int32)) hx hb dX4_transition_57 (by decide) ?_
        obtain rfl := Option.some.inj hf
        subst hZ
        exact pw_ri hx hb hr hlocks hK hP hD hS (Nat.le_of_ble_eq_true rfl) (Nat.le_of_ble_eq_true rfl) dX4_transition_58
      · have hf := pr_f hf hc
        refine lv_aload_n hx hb dX4_transition_15 rfl (lv_at hl 0 rfl) ?_
        refine va_get (D := D) (ci := 4) (v := .ref (bd 2)) (C := RX4) (T := TX4) (N := 30) hx hb hts hiX4 hown hK hP 0 rfl rfl 4 (by decide) f17 (fun _ h9 => h9) rfl dX4_transition_16 ?_
        refine lv_iload hx hb dX4_transition_19 (lv_at hl 4 rfl) ?_
        obtain ⟨hi21, hf⟩ := pr_in hf
        refine va_iald hx hb hK hP 2 1 rfl rfl hi21 dX4_transition_21 ?_
        refine lv_iload_n hx hb dX4_transition_22 rfl (lv_at hl 1 rfl) ?_
        refine lv_icmp_ne (tgt := 51) hx hb dX4_transition_23 (by decide) (fun hc => ?_) (fun hc => ?_)
        · have hf := pr_f hf hc
          refine lv_iinc (v := (v5 + (1 : Int32))) (lv' := [(5, .int (v5 + (1 : Int32))), (0, .ref (bd 0)), (1, .int v1), (2, .int v2), (4, .int v4)]) hx hb dX4_transition_51 hl (k := 4) rfl rfl (by decide) rfl (fun ls hl => ?_)
          refine lv_goto (tgt := 6) hx hb dX4_transition_54 (by decide) ?_
          exact ih6 v4 (v5 + (1 : Int32)) H locs ls hP hD hS (lv_sub hl [1, 2, 3, 4, 0] rfl) hf
        · have hf := pr_t hf hc
          refine lv_aload_n hx hb dX4_transition_26 rfl (lv_at hl 0 rfl) ?_
          refine va_get (D := D) (ci := 4) (v := .ref (bd 3)) (C := RX4) (T := TX4) (N := 30) hx hb hts hiX4 hown hK hP 0 rfl rfl 5 (by decide) f20 (fun _ h9 => h9) rfl dX4_transition_27 ?_
          refine lv_iload hx hb dX4_transition_30 (lv_at hl 4 rfl) ?_
          refine va_iald hx hb hK hP 3 2 rfl rfl hi21 dX4_transition_32 ?_
          refine lv_iload_n hx hb dX4_transition_33 rfl (lv_at hl 2 rfl) ?_
          refine lv_icmp_eq (tgt := 40) hx hb dX4_transition_34 (by decide) (fun hc => ?_) (fun hc => ?_)
          · have hf := pr_t hf hc
            refine lv_iload hx hb dX4_transition_40 (lv_at hl 3 rfl) ?_
            refine lv_if_ne (tgt := 48) hx hb dX4_transition_42 (by decide) (fun hc => ?_) (fun hc => ?_)
            · have hf := pr_f hf hc
              refine lv_iinc (v := (v4 + (-1 : Int32))) (lv' := [(4, .int (v4 + (-1 : Int32))), (0, .ref (bd 0)), (1, .int v1), (2, .int v2), (5, .int v5)]) hx hb dX4_transition_48 hl (k := 3) rfl rfl (by decide) rfl (fun ls hl => ?_)
              refine lv_iinc (v := (v5 + (1 : Int32))) (lv' := [(5, .int (v5 + (1 : Int32))), (4, .int (v4 + (-1 : Int32))), (0, .ref (bd 0)), (1, .int v1), (2, .int v2)]) hx hb dX4_transition_51 hl (k := 4) rfl rfl (by decide) rfl (fun ls hl => ?_)
              refine lv_goto (tgt := 6) hx hb dX4_transition_54 (by decide) ?_
              exact ih6 (v4 + (-1 : Int32)) (v5 + (1 : Int32)) H locs ls hP hD hS (lv_sub hl [2, 3, 4, 1, 0] rfl) hf
            · have hf := pr_t hf hc
              refine lv_iload hx hb dX4_transition_45 (lv_at hl 4 rfl) ?_
              obtain rfl := Option.some.inj hf
              subst hZ
              exact pw_ri hx hb hr hlocks hK hP hD hS (Nat.le_of_ble_eq_true rfl) (Nat.le_of_ble_eq_true rfl) dX4_transition_47
          · have hf := pr_f hf hc
            refine lv_goto (tgt := 51) hx hb dX4_transition_37 (by decide) ?_
            refine lv_iinc (v := (v5 + (1 : Int32))) (lv' := [(5, .int (v5 + (1 : Int32))), (0, .ref (bd 0)), (1, .int v1), (2, .int v2), (4, .int v4)]) hx hb dX4_transition_51 hl (k := 4) rfl rfl (by decide) rfl (fun ls hl => ?_)
            refine lv_goto (tgt := 6) hx hb dX4_transition_54 (by decide) ?_
            exact ih6 v4 (v5 + (1 : Int32)) H locs ls hP hD hS (lv_sub hl [1, 2, 3, 4, 0] rfl) hf
  unfold X4_transition at hf
  refine lv_iload_n hx hb dX4_transition_0 rfl (lv_at hl 3 rfl) ?_
  refine lv_istore (lv' := [(4, .int v3), (0, .ref (bd 0)), (1, .int v1), (2, .int v2), (3, .int v3)]) hx hb dX4_transition_1 hl (by decide) rfl (fun ls hl => ?_)
  refine lv_iconst (v := (0 : Int32)) hx hb dX4_transition_3 (by decide) ?_
  refine lv_istore (lv' := [(5, .int (0 : Int32)), (4, .int v3), (0, .ref (bd 0)), (1, .int v1), (2, .int v2), (3, .int v3)]) hx hb dX4_transition_4 hl (by decide) rfl (fun ls hl => ?_)
  exact L6 fu v3 (0 : Int32) H locs ls hP hD hS (lv_sub hl [2, 3, 4, 1, 0] rfl) hf
abbrev rmX4_areAlike : Room := { frames := 0, cells := 0, slots := 0, locals := 0 }
set_option maxHeartbeats 4000000 in
set_option maxRecDepth 100000 in
theorem c_X4_areAlike {l : Launch} {D : va_G} {bd : Nat → Nat} {cb : Nat → ClassId} (fu : Nat) (m_thrown m_states : Int32) (m_timerEvents : Nat → Int32) (m_transitions : Int32) (m_froms m_events m_variables m_relations m_numbers m_nexts m_sizes m_actions m_fired : Nat → Int32) (m_state : Int32) (m_time : Int64) (m_values m_runs : Nat → Int32) (m_dues : Nat → Int64) (m_emitted : Int32) (m_output : Nat → Int32) (m_ignored m_isCompiled m_classes : Int32) (m_numbersOf m_offsets m_useds : Nat → Int32) (m_tableSize : Int32) (m_owners m_isReached m_areApart : Nat → Int32) (v1 v2 : Int32) {o : Int32} (hf : X4_areAlike fu m_variables m_relations m_numbers m_nexts m_sizes m_actions m_areApart v1 v2 = some o) : Ci l yX4_areAlike wsX4_areAlike rmX4_areAlike D (MT cb) (MW bd cb m_thrown m_states m_timerEvents m_transitions m_froms m_events m_variables m_relations m_numbers m_nexts m_sizes m_actions m_fired m_state m_time m_values m_runs m_dues m_emitted m_output m_ignored m_isCompiled m_classes m_numbersOf m_offsets m_useds m_tableSize m_owners m_isReached m_areApart) [.ref (bd 0), .int v1, .int v2] o (MW bd cb m_thrown m_states m_timerEvents m_transitions m_froms m_events m_variables m_relations m_numbers m_nexts m_sizes m_actions m_fired m_state m_time m_values m_runs m_dues m_emitted m_output m_ignored m_isCompiled m_classes m_numbersOf m_offsets m_useds m_tableSize m_owners m_isReached m_areApart) := by
  intro sz
  refine pw_entry (Qc := fun A => pw_Qi D (MT cb) (MW bd cb m_thrown m_states m_timerEvents m_transitions m_froms m_events m_variables m_relations m_numbers m_nexts m_sizes m_actions m_fired m_state m_time m_values m_runs m_dues m_emitted m_output m_ignored m_isCompiled m_classes m_numbersOf m_offsets m_useds m_tableSize m_owners m_isReached m_areApart) A o) (cc := cX4_areAlike) (maxL := 5) (ret := (some .boolean)) (by decide) rfl (Nat.le_of_ble_eq_true rfl) ?_ sz
  intro p e s m args below meth c A ls Z H locs hx hb hr hlocks hts hown hml hnm hK hP hD hS hA hl hZ
  have hown : s.vm.findClass RX4 = some m.cls := hown
  have hiX4 : ∀ w ∈ u_ws RX4 TX4 30, w ∈ wsX4_areAlike := by decide +kernel
  have f23 := hts (.fieldLink RX4 23 "ProtocolMachineModel" "variables" "[I") (by decide +kernel)
  have f26 := hts (.fieldLink RX4 26 "ProtocolMachineModel" "relations" "[I") (by decide +kernel)
  have f29 := hts (.fieldLink RX4 29 "ProtocolMachineModel" "numbers" "[I") (by decide +kernel)
  have f32 := hts (.fieldLink RX4 32 "ProtocolMachineModel" "nexts" "[I") (by decide +kernel)
  have f35 := hts (.fieldLink RX4 35 "ProtocolMachineModel" "sizes" "[I") (by decide +kernel)
  have f38 := hts (.fieldLink RX4 38 "ProtocolMachineModel" "actions" "[I") (by decide +kernel)
  have f73 := hts (.fieldLink RX4 73 "ProtocolMachineModel" "areApart" "[Z") (by decide +kernel)
  have hl : lv_has ls 5 [(0, .ref (bd 0)), (1, .int v1), (2, .int v2)] := hl
  have L93 : ∀ n93 : Nat, ∀ (v3 v4 : Int32) (H : Heap) (locs : List Loc) (ls : Array Slot), va_P D vwCl (MW bd cb m_thrown m_states m_timerEvents m_transitions m_froms m_events m_variables m_relations m_numbers m_nexts m_sizes m_actions m_fired m_state m_time m_values m_runs m_dues m_emitted m_output m_ignored m_isCompiled m_classes m_numbersOf m_offsets m_useds m_tableSize m_owners m_isReached m_areApart) H → va_D A (MW bd cb m_thrown m_states m_timerEvents m_transitions m_froms m_events m_variables m_relations m_numbers m_nexts m_sizes m_actions m_fired m_state m_time m_values m_runs m_dues m_emitted m_output m_ignored m_isCompiled m_classes m_numbersOf m_offsets m_useds m_tableSize m_owners m_isReached m_areApart) → va_S A s.heap H locs → lv_has ls 5 [(0, .ref (bd 0)), (1, .int v1), (2, .int v2), (3, .int v3), (4, .int v4)] → X4_areAlike_L93 m_sizes m_actions v1 v2 n93 v3 v4 = some o → W p l e rmX4_areAlike s m args below meth c H locs 0 0 Z (F0 m 93 ls []) := by
    intro n93
    induction n93 with
    | zero =>
      intro v3 v4 H locs ls hP hD hS hl hf
      exact pr_n hf
    | succ n93 ih93 =>
      intro v3 v4 H locs ls hP hD hS hl hf
      replace hf : X4_areAlike_B93 m_sizes m_actions v1 v2 (X4_areAlike_L93 m_sizes m_actions v1 v2  n93) v3 v4 = some o := hf
      unfold X4_areAlike_B93 at hf
      refine lv_iload hx hb dX4_areAlike_93 (lv_at hl 4 rfl) ?_
      refine lv_iconst (v := (3 : Int32)) hx hb dX4_areAlike_95 (by decide) ?_
      refine lv_aload_n hx hb dX4_areAlike_96 rfl (lv_at hl 0 rfl) ?_
      refine va_get (D := D) (ci := 4) (v := .ref (bd 8)) (C := RX4) (T := TX4) (N := 30) hx hb hts hiX4 hown hK hP 0 rfl rfl 10 (by decide) f35 (fun _ h9 => h9) rfl dX4_areAlike_97 ?_
      refine lv_iload_n hx hb dX4_areAlike_100 rfl (lv_at hl 1 rfl) ?_
      obtain ⟨hi101, hf⟩ := pr_in hf
      refine va_iald hx hb hK hP 8 7 rfl rfl hi101 dX4_areAlike_101 ?_
      refine lv_imul hx hb dX4_areAlike_102 ?_
      refine lv_icmp_ge (tgt := 149) hx hb dX4_areAlike_103 (by decide) (fun hc => ?_) (fun hc => ?_)
      · have hf := pr_t hf hc
        refine lv_iload_n hx hb dX4_areAlike_149 rfl (lv_at hl 3 rfl) ?_
        obtain ⟨hn, hf⟩ := pr_nz hf
        obtain rfl := Option.some.inj hf
        subst hZ
        exact pw_rz hx hb hr hlocks hn hK hP hD hS (Nat.le_of_ble_eq_true rfl) (Nat.le_of_ble_eq_true rfl) dX4_areAlike_150
      · have hf := pr_f hf hc
        refine lv_iload_n hx hb dX4_areAlike_106 rfl (lv_at hl 3 rfl) ?_
        refine lv_if_eq (tgt := 149) hx hb dX4_areAlike_107 (by decide) (fun hc => ?_) (fun hc => ?_)
        · have hf := pr_t hf hc
          refine lv_iload_n hx hb dX4_areAlike_149 rfl (lv_at hl 3 rfl) ?_
          obtain ⟨hn, hf⟩ := pr_nz hf
          obtain rfl := Option.some.inj hf
          subst hZ
          exact pw_rz hx hb hr hlocks hn hK hP hD hS (Nat.le_of_ble_eq_true rfl) (Nat.le_of_ble_eq_true rfl) dX4_areAlike_150
        · have hf := pr_f hf hc
          refine lv_aload_n hx hb dX4_areAlike_110 rfl (lv_at hl 0 rfl) ?_
          refine va_get (D := D) (ci := 4) (v := .ref (bd 9)) (C := RX4) (T := TX4) (N := 30) hx hb hts hiX4 hown hK hP 0 rfl rfl 11 (by decide) f38 (fun _ h9 => h9) rfl dX4_areAlike_111 ?_
          refine lv_bipush (v := (9 : Int32)) hx hb dX4_areAlike_114 (by decide) ?_
          refine lv_iload_n hx hb dX4_areAlike_116 rfl (lv_at hl 1 rfl) ?_
          refine lv_imul hx hb dX4_areAlike_117 ?_
          refine lv_iload hx hb dX4_areAlike_118 (lv_at hl 4 rfl) ?_
          refine lv_iadd hx hb dX4_areAlike_120 ?_
          obtain ⟨hi121, hf⟩ := pr_in hf
          refine va_iald hx hb hK hP 9 8 rfl rfl hi121 dX4_areAlike_121 ?_
          refine lv_aload_n hx hb dX4_areAlike_122 rfl (lv_at hl 0 rfl) ?_
          refine va_get (D := D) (ci := 4) (v := .ref (bd 9)) (C := RX4) (T := TX4) (N := 30) hx hb hts hiX4 hown hK hP 0 rfl rfl 11 (by decide) f38 (fun _ h9 => h9) rfl dX4_areAlike_123 ?_
          refine lv_bipush (v := (9 : Int32)) hx hb dX4_areAlike_126 (by decide) ?_
          refine lv_iload_n hx hb dX4_areAlike_128 rfl (lv_at hl 2 rfl) ?_
          refine lv_imul hx hb dX4_areAlike_129 ?_
          refine lv_iload hx hb dX4_areAlike_130 (lv_at hl 4 rfl) ?_
          refine lv_iadd hx hb dX4_areAlike_132 ?_
          obtain ⟨hi133, hf⟩ := pr_in hf
          refine va_iald hx hb hK hP 9 8 rfl rfl hi133 dX4_areAlike_133 ?_
          refine lv_icmp_ne (tgt := 141) hx hb dX4_areAlike_134 (by decide) (fun hc => ?_) (fun hc => ?_)
          · have hf := pr_f hf hc
            refine lv_iconst (v := (0 : Int32)) hx hb dX4_areAlike_141 (by decide) ?_
            refine lv_istore_n (lv' := [(3, .int (0 : Int32)), (0, .ref (bd 0)), (1, .int v1), (2, .int v2), (4, .int v4)]) hx hb dX4_areAlike_142 rfl hl (by decide) rfl (fun ls hl => ?_)
            refine lv_iinc (v := (v4 + (1 : Int32))) (lv' := [(4, .int (v4 + (1 : Int32))), (3, .int (0 : Int32)), (0, .ref (bd 0)), (1, .int v1), (2, .int v2)]) hx hb dX4_areAlike_143 hl (k := 4) rfl rfl (by decide) rfl (fun ls hl => ?_)
            refine lv_goto (tgt := 93) hx hb dX4_areAlike_146 (by decide) ?_
            exact ih93 (0 : Int32) (v4 + (1 : Int32)) H locs ls hP hD hS (lv_sub hl [2, 3, 4, 1, 0] rfl) hf
          · have hf := pr_t hf hc
            refine lv_iconst (v := (1 : Int32)) hx hb dX4_areAlike_137 (by decide) ?_
            refine lv_goto (tgt := 142) hx hb dX4_areAlike_138 (by decide) ?_
            refine lv_istore_n (lv' := [(3, .int (1 : Int32)), (0, .ref (bd 0)), (1, .int v1), (2, .int v2), (4, .int v4)]) hx hb dX4_areAlike_142 rfl hl (by decide) rfl (fun ls hl => ?_)
            refine lv_iinc (v := (v4 + (1 : Int32))) (lv' := [(4, .int (v4 + (1 : Int32))), (3, .int (1 : Int32)), (0, .ref (bd 0)), (1, .int v1), (2, .int v2)]) hx hb dX4_areAlike_143 hl (k := 4) rfl rfl (by decide) rfl (fun ls hl => ?_)
            refine lv_goto (tgt := 93) hx hb dX4_areAlike_146 (by decide) ?_
            exact ih93 (1 : Int32) (v4 + (1 : Int32)) H locs ls hP hD hS (lv_sub hl [2, 3, 4, 1, 0] rfl) hf
  unfold X4_areAlike at hf
  refine lv_aload_n hx hb dX4_areAlike_0 rfl (lv_at hl 0 rfl) ?_
  refine va_get (D := D) (ci := 4) (v := .ref (bd 4)) (C := RX4) (T := TX4) (N := 30) hx hb hts hiX4 hown hK hP 0 rfl rfl 6 (by decide) f23 (fun _ h9 => h9) rfl dX4_areAlike_1 ?_
  refine lv_iload_n hx hb dX4_areAlike_4 rfl (lv_at hl 1 rfl) ?_
  obtain ⟨hi5, hf⟩ := pr_in hf
  refine va_iald hx hb hK hP 4 3 rfl rfl hi5 dX4_areAlike_5 ?_
  refine lv_aload_n hx hb dX4_areAlike_6 rfl (lv_at hl 0 rfl) ?_
  refine va_get (D := D) (ci := 4) (v := .ref (bd 4)) (C := RX4) (T := TX4) (N := 30) hx hb hts hiX4 hown hK hP 0 rfl rfl 6 (by decide) f23 (fun _ h9 => h9) rfl dX4_areAlike_7 ?_
  refine lv_iload_n hx hb dX4_areAlike_10 rfl (lv_at hl 2 rfl) ?_
  obtain ⟨hi11, hf⟩ := pr_in hf
  refine va_iald hx hb hK hP 4 3 rfl rfl hi11 dX4_areAlike_11 ?_
  refine lv_icmp_ne (tgt := 88) hx hb dX4_areAlike_12 (by decide) (fun hc => ?_) (fun hc => ?_)
  · have hf := pr_f hf hc
    refine lv_iconst (v := (0 : Int32)) hx hb dX4_areAlike_88 (by decide) ?_
    refine lv_istore_n (lv' := [(3, .int (0 : Int32)), (0, .ref (bd 0)), (1, .int v1), (2, .int v2)]) hx hb dX4_areAlike_89 rfl hl (by decide) rfl (fun ls hl => ?_)
    refine lv_iconst (v := (0 : Int32)) hx hb dX4_areAlike_90 (by decide) ?_
    refine lv_istore (lv' := [(4, .int (0 : Int32)), (3, .int (0 : Int32)), (0, .ref (bd 0)), (1, .int v1), (2, .int v2)]) hx hb dX4_areAlike_91 hl (by decide) rfl (fun ls hl => ?_)
    exact L93 fu (0 : Int32) (0 : Int32) H locs ls hP hD hS (lv_sub hl [2, 3, 4, 1, 0] rfl) hf
  · have hf := pr_t hf hc
    refine lv_aload_n hx hb dX4_areAlike_15 rfl (lv_at hl 0 rfl) ?_
    refine va_get (D := D) (ci := 4) (v := .ref (bd 5)) (C := RX4) (T := TX4) (N := 30) hx hb hts hiX4 hown hK hP 0 rfl rfl 7 (by decide) f26 (fun _ h9 => h9) rfl dX4_areAlike_16 ?_
    refine lv_iload_n hx hb dX4_areAlike_19 rfl (lv_at hl 1 rfl) ?_
    refine va_iald hx hb hK hP 5 4 rfl rfl hi5 dX4_areAlike_20 ?_
    refine lv_aload_n hx hb dX4_areAlike_21 rfl (lv_at hl 0 rfl) ?_
    refine va_get (D := D) (ci := 4) (v := .ref (bd 5)) (C := RX4) (T := TX4) (N := 30) hx hb hts hiX4 hown hK hP 0 rfl rfl 7 (by decide) f26 (fun _ h9 => h9) rfl dX4_areAlike_22 ?_
    refine lv_iload_n hx hb dX4_areAlike_25 rfl (lv_at hl 2 rfl) ?_
    refine va_iald hx hb hK hP 5 4 rfl rfl hi11 dX4_areAlike_26 ?_
    refine lv_icmp_ne (tgt := 88) hx hb dX4_areAlike_27 (by decide) (fun hc => ?_) (fun hc => ?_)
    · have hf := pr_f hf hc
      refine lv_iconst (v := (0 : Int32)) hx hb dX4_areAlike_88 (by decide) ?_
      refine lv_istore_n (lv' := [(3, .int (0 : Int32)), (0, .ref (bd 0)), (1, .int v1), (2, .int v2)]) hx hb dX4_areAlike_89 rfl hl (by decide) rfl (fun ls hl => ?_)
      refine lv_iconst (v := (0 : Int32)) hx hb dX4_areAlike_90 (by decide) ?_
      refine lv_istore (lv' := [(4, .int (0 : Int32)), (3, .int (0 : Int32)), (0, .ref (bd 0)), (1, .int v1), (2, .int v2)]) hx hb dX4_areAlike_91 hl (by decide) rfl (fun ls hl => ?_)
      exact L93 fu (0 : Int32) (0 : Int32) H locs ls hP hD hS (lv_sub hl [2, 3, 4, 1, 0] rfl) hf
    · have hf := pr_t hf hc
      refine lv_aload_n hx hb dX4_areAlike_30 rfl (lv_at hl 0 rfl) ?_
      refine va_get (D := D) (ci := 4) (v := .ref (bd 6)) (C := RX4) (T := TX4) (N := 30) hx hb hts hiX4 hown hK hP 0 rfl rfl 8 (by decide) f29 (fun _ h9 => h9) rfl dX4_areAlike_31 ?_
      refine lv_iload_n hx hb dX4_areAlike_34 rfl (lv_at hl 1 rfl) ?_
      refine va_iald hx hb hK hP 6 5 rfl rfl hi5 dX4_areAlike_35 ?_
      refine lv_aload_n hx hb dX4_areAlike_36 rfl (lv_at hl 0 rfl) ?_
      refine va_get (D := D) (ci := 4) (v := .ref (bd 6)) (C := RX4) (T := TX4) (N := 30) hx hb hts hiX4 hown hK hP 0 rfl rfl 8 (by decide) f29 (fun _ h9 => h9) rfl dX4_areAlike_37 ?_
      refine lv_iload_n hx hb dX4_areAlike_40 rfl (lv_at hl 2 rfl) ?_
      refine va_iald hx hb hK hP 6 5 rfl rfl hi11 dX4_areAlike_41 ?_
      refine lv_icmp_ne (tgt := 88) hx hb dX4_areAlike_42 (by decide) (fun hc => ?_) (fun hc => ?_)
      · have hf := pr_f hf hc
        refine lv_iconst (v := (0 : Int32)) hx hb dX4_areAlike_88 (by decide) ?_
        refine lv_istore_n (lv' := [(3, .int (0 : Int32)), (0, .ref (bd 0)), (1, .int v1), (2, .int v2)]) hx hb dX4_areAlike_89 rfl hl (by decide) rfl (fun ls hl => ?_)
        refine lv_iconst (v := (0 : Int32)) hx hb dX4_areAlike_90 (by decide) ?_
        refine lv_istore (lv' := [(4, .int (0 : Int32)), (3, .int (0 : Int32)), (0, .ref (bd 0)), (1, .int v1), (2, .int v2)]) hx hb dX4_areAlike_91 hl (by decide) rfl (fun ls hl => ?_)
        exact L93 fu (0 : Int32) (0 : Int32) H locs ls hP hD hS (lv_sub hl [2, 3, 4, 1, 0] rfl) hf
      · have hf := pr_t hf hc
        refine lv_aload_n hx hb dX4_areAlike_45 rfl (lv_at hl 0 rfl) ?_
        refine va_get (D := D) (ci := 4) (v := .ref (bd 8)) (C := RX4) (T := TX4) (N := 30) hx hb hts hiX4 hown hK hP 0 rfl rfl 10 (by decide) f35 (fun _ h9 => h9) rfl dX4_areAlike_46 ?_
        refine lv_iload_n hx hb dX4_areAlike_49 rfl (lv_at hl 1 rfl) ?_
        refine va_iald hx hb hK hP 8 7 rfl rfl hi5 dX4_areAlike_50 ?_
        refine lv_aload_n hx hb dX4_areAlike_51 rfl (lv_at hl 0 rfl) ?_
        refine va_get (D := D) (ci := 4) (v := .ref (bd 8)) (C := RX4) (T := TX4) (N := 30) hx hb hts hiX4 hown hK hP 0 rfl rfl 10 (by decide) f35 (fun _ h9 => h9) rfl dX4_areAlike_52 ?_
        refine lv_iload_n hx hb dX4_areAlike_55 rfl (lv_at hl 2 rfl) ?_
        refine va_iald hx hb hK hP 8 7 rfl rfl hi11 dX4_areAlike_56 ?_
        refine lv_icmp_ne (tgt := 88) hx hb dX4_areAlike_57 (by decide) (fun hc => ?_) (fun hc => ?_)
        · have hf := pr_f hf hc
          refine lv_iconst (v := (0 : Int32)) hx hb dX4_areAlike_88 (by decide) ?_
          refine lv_istore_n (lv' := [(3, .int (0 : Int32)), (0, .ref (bd 0)), (1, .int v1), (2, .int v2)]) hx hb dX4_areAlike_89 rfl hl (by decide) rfl (fun ls hl => ?_)
          refine lv_iconst (v := (0 : Int32)) hx hb dX4_areAlike_90 (by decide) ?_
          refine lv_istore (lv' := [(4, .int (0 : Int32)), (3, .int (0 : Int32)), (0, .ref (bd 0)), (1, .int v1), (2, .int v2)]) hx hb dX4_areAlike_91 hl (by decide) rfl (fun ls hl => ?_)
          exact L93 fu (0 : Int32) (0 : Int32) H locs ls hP hD hS (lv_sub hl [2, 3, 4, 1, 0] rfl) hf
        · have hf := pr_t hf hc
          refine lv_aload_n hx hb dX4_areAlike_60 rfl (lv_at hl 0 rfl) ?_
          refine va_get (D := D) (ci := 4) (v := .ref (bd 20)) (C := RX4) (T := TX4) (N := 30) hx hb hts hiX4 hown hK hP 0 rfl rfl 29 (by decide) f73 (fun _ h9 => h9) rfl dX4_areAlike_61 ?_
          refine lv_bipush (v := (12 : Int32)) hx hb dX4_areAlike_64 (by decide) ?_
          refine lv_aload_n hx hb dX4_areAlike_66 rfl (lv_at hl 0 rfl) ?_
          refine va_get (D := D) (ci := 4) (v := .ref (bd 7)) (C := RX4) (T := TX4) (N := 30) hx hb hts hiX4 hown hK hP 0 rfl rfl 9 (by decide) f32 (fun _ h9 => h9) rfl dX4_areAlike_67 ?_
          refine lv_iload_n hx hb dX4_areAlike_70 rfl (lv_at hl 1 rfl) ?_
          refine va_iald hx hb hK hP 7 6 rfl rfl hi5 dX4_areAlike_71 ?_
          refine lv_imul hx hb dX4_areAlike_72 ?_
          refine lv_aload_n hx hb dX4_areAlike_73 rfl (lv_at hl 0 rfl) ?_
          refine va_get (D := D) (ci := 4) (v := .ref (bd 7)) (C := RX4) (T := TX4) (N := 30) hx hb hts hiX4 hown hK hP 0 rfl rfl 9 (by decide) f32 (fun _ h9 => h9) rfl dX4_areAlike_74 ?_
          refine lv_iload_n hx hb dX4_areAlike_77 rfl (lv_at hl 2 rfl) ?_
          refine va_iald hx hb hK hP 7 6 rfl rfl hi11 dX4_areAlike_78 ?_
          refine lv_iadd hx hb dX4_areAlike_79 ?_
          obtain ⟨hi80, hf⟩ := pr_in hf
          refine va_zald hx hb hK hP 20 19 rfl rfl hi80 dX4_areAlike_80 ?_
          refine lv_if_ne (tgt := 88) hx hb dX4_areAlike_81 (by decide) (fun hc => ?_) (fun hc => ?_)
          · have hf := pr_f hf hc
            refine lv_iconst (v := (0 : Int32)) hx hb dX4_areAlike_88 (by decide) ?_
            refine lv_istore_n (lv' := [(3, .int (0 : Int32)), (0, .ref (bd 0)), (1, .int v1), (2, .int v2)]) hx hb dX4_areAlike_89 rfl hl (by decide) rfl (fun ls hl => ?_)
            refine lv_iconst (v := (0 : Int32)) hx hb dX4_areAlike_90 (by decide) ?_
            refine lv_istore (lv' := [(4, .int (0 : Int32)), (3, .int (0 : Int32)), (0, .ref (bd 0)), (1, .int v1), (2, .int v2)]) hx hb dX4_areAlike_91 hl (by decide) rfl (fun ls hl => ?_)
            exact L93 fu (0 : Int32) (0 : Int32) H locs ls hP hD hS (lv_sub hl [2, 3, 4, 1, 0] rfl) hf
          · have hf := pr_t hf hc
            refine lv_iconst (v := (1 : Int32)) hx hb dX4_areAlike_84 (by decide) ?_
            refine lv_goto (tgt := 89) hx hb dX4_areAlike_85 (by decide) ?_
            refine lv_istore_n (lv' := [(3, .int (1 : Int32)), (0, .ref (bd 0)), (1, .int v1), (2, .int v2)]) hx hb dX4_areAlike_89 rfl hl (by decide) rfl (fun ls hl => ?_)
            refine lv_iconst (v := (0 : Int32)) hx hb dX4_areAlike_90 (by decide) ?_
            refine lv_istore (lv' := [(4, .int (0 : Int32)), (3, .int (1 : Int32)), (0, .ref (bd 0)), (1, .int v1), (2, .int v2)]) hx hb dX4_areAlike_91 hl (by decide) rfl (fun ls hl => ?_)
            exact L93 fu (1 : Int32) (0 : Int32) H locs ls hP hD hS (lv_sub hl [2, 3, 4, 1, 0] rfl) hf
abbrev rmX4_areDifferent : Room := { frames := 1, cells := 0, slots := 0, locals := 25 }
set_option maxHeartbeats 4000000 in
set_option maxRecDepth 100000 in
theorem c_X4_areDifferent {l : Launch} {D : va_G} {bd : Nat → Nat} {cb : Nat → ClassId} (fu : Nat) (m_thrown m_states : Int32) (m_timerEvents : Nat → Int32) (m_transitions : Int32) (m_froms m_events m_variables m_relations m_numbers m_nexts m_sizes m_actions m_fired : Nat → Int32) (m_state : Int32) (m_time : Int64) (m_values m_runs : Nat → Int32) (m_dues : Nat → Int64) (m_emitted : Int32) (m_output : Nat → Int32) (m_ignored m_isCompiled m_classes : Int32) (m_numbersOf m_offsets m_useds : Nat → Int32) (m_tableSize : Int32) (m_owners m_isReached m_areApart : Nat → Int32) (v1 v2 : Int32) {o : Int32} (hf : X4_areDifferent fu m_transitions m_froms m_events m_variables m_relations m_numbers m_nexts m_sizes m_actions m_areApart v1 v2 = some o) : Ci l yX4_areDifferent wsX4_areDifferent rmX4_areDifferent D (MT cb) (MW bd cb m_thrown m_states m_timerEvents m_transitions m_froms m_events m_variables m_relations m_numbers m_nexts m_sizes m_actions m_fired m_state m_time m_values m_runs m_dues m_emitted m_output m_ignored m_isCompiled m_classes m_numbersOf m_offsets m_useds m_tableSize m_owners m_isReached m_areApart) [.ref (bd 0), .int v1, .int v2] o (MW bd cb m_thrown m_states m_timerEvents m_transitions m_froms m_events m_variables m_relations m_numbers m_nexts m_sizes m_actions m_fired m_state m_time m_values m_runs m_dues m_emitted m_output m_ignored m_isCompiled m_classes m_numbersOf m_offsets m_useds m_tableSize m_owners m_isReached m_areApart) := by
  intro sz
  refine pw_entry (Qc := fun A => pw_Qi D (MT cb) (MW bd cb m_thrown m_states m_timerEvents m_transitions m_froms m_events m_variables m_relations m_numbers m_nexts m_sizes m_actions m_fired m_state m_time m_values m_runs m_dues m_emitted m_output m_ignored m_isCompiled m_classes m_numbersOf m_offsets m_useds m_tableSize m_owners m_isReached m_areApart) A o) (cc := cX4_areDifferent) (maxL := 7) (ret := (some .boolean)) (by decide) rfl (Nat.le_of_ble_eq_true rfl) ?_ sz
  intro p e s m args below meth c A ls Z H locs hx hb hr hlocks hts hown hml hnm hK hP hD hS hA hl hZ
  have hown : s.vm.findClass RX4 = some m.cls := hown
  have hl : lv_has ls 7 [(0, .ref (bd 0)), (1, .int v1), (2, .int v2)] := hl
  have L2 : ∀ n2 : Nat, ∀ (v3 : Int32) (H : Heap) (locs : List Loc) (ls : Array Slot), va_P D vwCl (MW bd cb m_thrown m_states m_timerEvents m_transitions m_froms m_events m_variables m_relations m_numbers m_nexts m_sizes m_actions m_fired m_state m_time m_values m_runs m_dues m_emitted m_output m_ignored m_isCompiled m_classes m_numbersOf m_offsets m_useds m_tableSize m_owners m_isReached m_areApart) H → va_D A (MW bd cb m_thrown m_states m_timerEvents m_transitions m_froms m_events m_variables m_relations m_numbers m_nexts m_sizes m_actions m_fired m_state m_time m_values m_runs m_dues m_emitted m_output m_ignored m_isCompiled m_classes m_numbersOf m_offsets m_useds m_tableSize m_owners m_isReached m_areApart) → va_S A s.heap H locs → lv_has ls 7 [(0, .ref (bd 0)), (1, .int v1), (2, .int v2), (3, .int v3)] → X4_areDifferent_L2 fu m_transitions m_froms m_events m_variables m_relations m_numbers m_nexts m_sizes m_actions m_areApart v1 v2 n2 v3 = some o → W p l e rmX4_areDifferent s m args below meth c H locs 0 0 Z (F0 m 2 ls []) := by
    intro n2
    induction n2 with
    | zero =>
      intro v3 H locs ls hP hD hS hl hf
      exact pr_n hf
    | succ n2 ih2 =>
      have B78 : ∀ (v3 v5 v6 : Int32) (H : Heap) (locs : List Loc) (ls : Array Slot), va_P D vwCl (MW bd cb m_thrown m_states m_timerEvents m_transitions m_froms m_events m_variables m_relations m_numbers m_nexts m_sizes m_actions m_fired m_state m_time m_values m_runs m_dues m_emitted m_output m_ignored m_isCompiled m_classes m_numbersOf m_offsets m_useds m_tableSize m_owners m_isReached m_areApart) H → va_D A (MW bd cb m_thrown m_states m_timerEvents m_transitions m_froms m_events m_variables m_relations m_numbers m_nexts m_sizes m_actions m_fired m_state m_time m_values m_runs m_dues m_emitted m_output m_ignored m_isCompiled m_classes m_numbersOf m_offsets m_useds m_tableSize m_owners m_isReached m_areApart) → va_S A s.heap H locs → lv_has ls 7 [(0, .ref (bd 0)), (1, .int v1), (2, .int v2), (3, .int v3), (5, .int v5), (6, .int v6)] → X4_areDifferent_B78 (X4_areDifferent_L2 fu m_transitions m_froms m_events m_variables m_relations m_numbers m_nexts m_sizes m_actions m_areApart v1 v2 n2) v3 v5 v6 = some o → W p l e rmX4_areDifferent s m args below meth c H locs 0 0 Z (F0 m 78 ls []) := by
        intro v3 v5 v6 H locs ls hP hD hS hl hf
        unfold X4_areDifferent_B78 at hf
        refine lv_iload hx hb dX4_areDifferent_78 (lv_at hl 4 rfl) ?_
        refine lv_iconst (v := (-1 : Int32)) hx hb dX4_areDifferent_80 (by decide) ?_
        refine lv_icmp_ne (tgt := 90) hx hb dX4_areDifferent_81 (by decide) (fun hc => ?_) (fun hc => ?_)
        · have hf := pr_f hf hc
          refine lv_iconst (v := (1 : Int32)) hx hb dX4_areDifferent_90 (by decide) ?_
          obtain rfl := Option.some.inj hf
          subst hZ
          exact pw_rz hx hb hr hlocks (Or.inr rfl) hK hP hD hS (Nat.le_of_ble_eq_true rfl) (Nat.le_of_ble_eq_true rfl) dX4_areDifferent_91
        · have hf := pr_t hf hc
          refine lv_iload hx hb dX4_areDifferent_84 (lv_at hl 5 rfl) ?_
          refine lv_iconst (v := (-1 : Int32)) hx hb dX4_areDifferent_86 (by decide) ?_
          refine lv_icmp_eq (tgt := 92) hx hb dX4_areDifferent_87 (by decide) (fun hc => ?_) (fun hc => ?_)
          · have hf := pr_t hf hc
            refine lv_iinc (v := (v3 + (1 : Int32))) (lv' := [(3, .int (v3 + (1 : Int32))), (0, .ref (bd 0)), (1, .int v1), (2, .int v2), (5, .int v5), (6, .int v6)]) hx hb dX4_areDifferent_92 hl (k := 3) rfl rfl (by decide) rfl (fun ls hl => ?_)
            refine lv_goto (tgt := 2) hx hb dX4_areDifferent_95 (by decide) ?_
            exact ih2 (v3 + (1 : Int32)) H locs ls hP hD hS (lv_sub hl [1, 2, 3, 0] rfl) hf
          · have hf := pr_f hf hc
            refine lv_iconst (v := (1 : Int32)) hx hb dX4_areDifferent_90 (by decide) ?_
            obtain rfl := Option.some.inj hf
            subst hZ
            exact pw_rz hx hb hr hlocks (Or.inr rfl) hK hP hD hS (Nat.le_of_ble_eq_true rfl) (Nat.le_of_ble_eq_true rfl) dX4_areDifferent_91
      have L29 : ∀ n29 : Nat, ∀ (v3 v4 v5 v6 : Int32) (H : Heap) (locs : List Loc) (ls : Array Slot), va_P D vwCl (MW bd cb m_thrown m_states m_timerEvents m_transitions m_froms m_events m_variables m_relations m_numbers m_nexts m_sizes m_actions m_fired m_state m_time m_values m_runs m_dues m_emitted m_output m_ignored m_isCompiled m_classes m_numbersOf m_offsets m_useds m_tableSize m_owners m_isReached m_areApart) H → va_D A (MW bd cb m_thrown m_states m_timerEvents m_transitions m_froms m_events m_variables m_relations m_numbers m_nexts m_sizes m_actions m_fired m_state m_time m_values m_runs m_dues m_emitted m_output m_ignored m_isCompiled m_classes m_numbersOf m_offsets m_useds m_tableSize m_owners m_isReached m_areApart) → va_S A s.heap H locs → lv_has ls 7 [(0, .ref (bd 0)), (1, .int v1), (2, .int v2), (3, .int v3), (4, .int v4), (5, .int v5), (6, .int v6)] → X4_areDifferent_L29 fu m_transitions m_froms m_events m_variables m_relations m_numbers m_nexts m_sizes m_actions m_areApart v1 v2 (X4_areDifferent_L2 fu m_transitions m_froms m_events m_variables m_relations m_numbers m_nexts m_sizes m_actions m_areApart v1 v2 n2) n29 v3 v4 v5 v6 = some o → W p l e rmX4_areDifferent s m args below meth c H locs 0 0 Z (F0 m 29 ls []) := by
        intro n29
        induction n29 with
        | zero =>
          intro v3 v4 v5 v6 H locs ls hP hD hS hl hf
          exact pr_n hf
        | succ n29 ih29 =>
          intro v3 v4 v5 v6 H locs ls hP hD hS hl hf
          replace hf : X4_areDifferent_B29 fu m_transitions m_froms m_events m_variables m_relations m_numbers m_nexts m_sizes m_actions m_areApart v1 v2 (X4_areDifferent_L2 fu m_transitions m_froms m_events m_variables m_relations m_numbers m_nexts m_sizes m_actions m_areApart v1 v2  n2) (X4_areDifferent_L29 fu m_transitions m_froms m_events m_variables m_relations m_numbers m_nexts m_sizes m_actions m_areApart v1 v2 (X4_areDifferent_L2 fu m_transitions m_froms m_events m_variables m_relations m_numbers m_nexts m_sizes m_actions m_areApart v1 v2  n2) n29) v3 v4 v5 v6 = some o := hf
          unfold X4_areDifferent_B29 at hf
          refine lv_iload hx hb dX4_areDifferent_29 (lv_at hl 5 rfl) ?_
          refine lv_iconst (v := (-1 : Int32)) hx hb dX4_areDifferent_31 (by decide) ?_
          refine lv_icmp_eq (tgt := 78) hx hb dX4_areDifferent_32 (by decide) (fun hc => ?_) (fun hc => ?_)
          · have hf := pr_t hf hc
            exact B78 v3 v5 v6 H locs ls hP hD hS (lv_sub hl [0, 1, 2, 3, 5, 6] rfl) hf
          · have hf := pr_f hf hc
            refine lv_iload hx hb dX4_areDifferent_35 (lv_at hl 6 rfl) ?_
            refine lv_iconst (v := (-1 : Int32)) hx hb dX4_areDifferent_37 (by decide) ?_
            refine lv_icmp_eq (tgt := 78) hx hb dX4_areDifferent_38 (by decide) (fun hc => ?_) (fun hc => ?_)
            · have hf := pr_t hf hc
              exact B78 v3 v5 v6 H locs ls hP hD hS (lv_sub hl [0, 1, 2, 3, 5, 6] rfl) hf
            · have hf := pr_f hf hc
              refine lv_aload_n hx hb dX4_areDifferent_41 rfl (lv_at hl 0 rfl) ?_
              refine lv_iload hx hb dX4_areDifferent_42 (lv_at hl 5 rfl) ?_
              refine lv_iload hx hb dX4_areDifferent_44 (lv_at hl 6 rfl) ?_
              obtain ⟨x46, hg46, hf⟩ := pr_b hf
              refine pw_cViW (b := bd 0) (As := [.int v5, .int v6]) (rest := []) ⟨hx, hb, hml, hown, hts⟩ (c_X4_areAlike fu (D := D) m_thrown m_states m_timerEvents m_transitions m_froms m_events m_variables m_relations m_numbers m_nexts m_sizes m_actions m_fired m_state m_time m_values m_runs m_dues m_emitted m_output m_ignored m_isCompiled m_classes m_numbersOf m_offsets m_useds m_tableSize m_owners m_isReached m_areApart v5 v6 hg46) (cwV 2 hts gX4_areDifferent_X4_areAlike rfl rfl rfl (by decide +kernel) ⟨Nat.le_of_ble_eq_true rfl, Nat.le_of_ble_eq_true rfl⟩) 0 4 rfl rfl hK hP hD hS hA rfl hl.1 rfl (Nat.le_of_ble_eq_true rfl) dX4_areDifferent_46 ⟨Nat.le_of_ble_eq_true rfl, Nat.le_of_ble_eq_true rfl⟩ (fun H locs hP hD hS => ?_)
              refine lv_if_eq (tgt := 78) hx hb dX4_areDifferent_49 (by decide) (fun hc => ?_) (fun hc => ?_)
              · have hf := pr_t hf hc
                exact B78 v3 v5 v6 H locs ls hP hD hS (lv_sub hl [0, 1, 2, 3, 5, 6] rfl) hf
              · have hf := pr_f hf hc
                refine lv_iinc (v := (v4 + (1 : Int32))) (lv' := [(4, .int (v4 + (1 : Int32))), (0, .ref (bd 0)), (1, .int v1), (2, .int v2), (3, .int v3), (5, .int v5), (6, .int v6)]) hx hb dX4_areDifferent_52 hl (k := 4) rfl rfl (by decide) rfl (fun ls hl => ?_)
                refine lv_aload_n hx hb dX4_areDifferent_55 rfl (lv_at hl 1 rfl) ?_
                refine lv_iload_n hx hb dX4_areDifferent_56 rfl (lv_at hl 2 rfl) ?_
                refine lv_iload_n hx hb dX4_areDifferent_57 rfl (lv_at hl 4 rfl) ?_
                refine lv_iload hx hb dX4_areDifferent_58 (lv_at hl 0 rfl) ?_
                obtain ⟨x60, hg60, hf⟩ := pr_b hf
                refine pw_cViW (b := bd 0) (As := [.int v1, .int v3, .int (v4 + (1 : Int32))]) (rest := []) ⟨hx, hb, hml, hown, hts⟩ (c_X4_transition fu (D := D) m_thrown m_states m_timerEvents m_transitions m_froms m_events m_variables m_relations m_numbers m_nexts m_sizes m_actions m_fired m_state m_time m_values m_runs m_dues m_emitted m_output m_ignored m_isCompiled m_classes m_numbersOf m_offsets m_useds m_tableSize m_owners m_isReached m_areApart v1 v3 (v4 + (1 : Int32)) hg60) (cwV 3 hts gX4_areDifferent_X4_transition rfl rfl rfl (by decide +kernel) ⟨Nat.le_of_ble_eq_true rfl, Nat.le_of_ble_eq_true rfl⟩) 0 4 rfl rfl hK hP hD hS hA rfl hl.1 rfl (Nat.le_of_ble_eq_true rfl) dX4_areDifferent_60 ⟨Nat.le_of_ble_eq_true rfl, Nat.le_of_ble_eq_true rfl⟩ (fun H locs hP hD hS => ?_)
                refine lv_istore (lv' := [(5, .int x60), (4, .int (v4 + (1 : Int32))), (0, .ref (bd 0)), (1, .int v1), (2, .int v2), (3, .int v3), (6, .int v6)]) hx hb dX4_areDifferent_63 hl (by decide) rfl (fun ls hl => ?_)
                refine lv_aload_n hx hb dX4_areDifferent_65 rfl (lv_at hl 2 rfl) ?_
                refine lv_iload_n hx hb dX4_areDifferent_66 rfl (lv_at hl 4 rfl) ?_
                refine lv_iload_n hx hb dX4_areDifferent_67 rfl (lv_at hl 5 rfl) ?_
                refine lv_iload hx hb dX4_areDifferent_68 (lv_at hl 1 rfl) ?_
                obtain ⟨x70, hg70, hf⟩ := pr_b hf
                refine pw_cViW (b := bd 0) (As := [.int v2, .int v3, .int (v4 + (1 : Int32))]) (rest := []) ⟨hx, hb, hml, hown, hts⟩ (c_X4_transition fu (D := D) m_thrown m_states m_timerEvents m_transitions m_froms m_events m_variables m_relations m_numbers m_nexts m_sizes m_actions m_fired m_state m_time m_values m_runs m_dues m_emitted m_output m_ignored m_isCompiled m_classes m_numbersOf m_offsets m_useds m_tableSize m_owners m_isReached m_areApart v2 v3 (v4 + (1 : Int32)) hg70) (cwV 3 hts gX4_areDifferent_X4_transition rfl rfl rfl (by decide +kernel) ⟨Nat.le_of_ble_eq_true rfl, Nat.le_of_ble_eq_true rfl⟩) 0 4 rfl rfl hK hP hD hS hA rfl hl.1 rfl (Nat.le_of_ble_eq_true rfl) dX4_areDifferent_70 ⟨Nat.le_of_ble_eq_true rfl, Nat.le_of_ble_eq_true rfl⟩ (fun H locs hP hD hS => ?_)
                refine lv_istore (lv' := [(6, .int x70), (5, .int x60), (4, .int (v4 + (1 : Int32))), (0, .ref (bd 0)), (1, .int v1), (2, .int v2), (3, .int v3)]) hx hb dX4_areDifferent_73 hl (by decide) rfl (fun ls hl => ?_)
                refine lv_goto (tgt := 29) hx hb dX4_areDifferent_75 (by decide) ?_
                exact ih29 v3 (v4 + (1 : Int32)) x60 x70 H locs ls hP hD hS (lv_sub hl [3, 4, 5, 6, 2, 1, 0] rfl) hf
      intro v3 H locs ls hP hD hS hl hf
      replace hf : X4_areDifferent_B2 fu m_transitions m_froms m_events m_variables m_relations m_numbers m_nexts m_sizes m_actions m_areApart v1 v2 (X4_areDifferent_L2 fu m_transitions m_froms m_events m_variables m_relations m_numbers m_nexts m_sizes m_actions m_areApart v1 v2  n2) v3 = some o := hf
      unfold X4_areDifferent_B2 at hf
      refine lv_iload_n hx hb dX4_areDifferent_2 rfl (lv_at hl 3 rfl) ?_
      refine lv_bipush (v := (8 : Int32)) hx hb dX4_areDifferent_3 (by decide) ?_
      refine lv_icmp_ge (tgt := 98) hx hb dX4_areDifferent_5 (by decide) (fun hc => ?_) (fun hc => ?_)
      · have hf := pr_t hf hc
        refine lv_iconst (v := (0 : Int32)) hx hb dX4_areDifferent_98 (by decide) ?_
        obtain rfl := Option.some.inj hf
        subst hZ
        exact pw_rz hx hb hr hlocks (Or.inl rfl) hK hP hD hS (Nat.le_of_ble_eq_true rfl) (Nat.le_of_ble_eq_true rfl) dX4_areDifferent_99
      · have hf := pr_f hf hc
        refine lv_iconst (v := (0 : Int32)) hx hb dX4_areDifferent_8 (by decide) ?_
        refine lv_istore (lv' := [(4, .int (0 : Int32)), (0, .ref (bd 0)), (1, .int v1), (2, .int v2), (3, .int v3)]) hx hb dX4_areDifferent_9 hl (by decide) rfl (fun ls hl => ?_)
        refine lv_aload_n hx hb dX4_areDifferent_11 rfl (lv_at hl 1 rfl) ?_
        refine lv_iload_n hx hb dX4_areDifferent_12 rfl (lv_at hl 2 rfl) ?_
        refine lv_iload_n hx hb dX4_areDifferent_13 rfl (lv_at hl 4 rfl) ?_
        refine lv_iconst (v := (0 : Int32)) hx hb dX4_areDifferent_14 (by decide) ?_
        obtain ⟨x15, hg15, hf⟩ := pr_b hf
        refine pw_cViW (b := bd 0) (As := [.int v1, .int v3, .int (0 : Int32)]) (rest := []) ⟨hx, hb, hml, hown, hts⟩ (c_X4_transition fu (D := D) m_thrown m_states m_timerEvents m_transitions m_froms m_events m_variables m_relations m_numbers m_nexts m_sizes m_actions m_fired m_state m_time m_values m_runs m_dues m_emitted m_output m_ignored m_isCompiled m_classes m_numbersOf m_offsets m_useds m_tableSize m_owners m_isReached m_areApart v1 v3 (0 : Int32) hg15) (cwV 3 hts gX4_areDifferent_X4_transition rfl rfl rfl (by decide +kernel) ⟨Nat.le_of_ble_eq_true rfl, Nat.le_of_ble_eq_true rfl⟩) 0 4 rfl rfl hK hP hD hS hA rfl hl.1 rfl (Nat.le_of_ble_eq_true rfl) dX4_areDifferent_15 ⟨Nat.le_of_ble_eq_true rfl, Nat.le_of_ble_eq_true rfl⟩ (fun H locs hP hD hS => ?_)
        refine lv_istore (lv' := [(5, .int x15), (4, .int (0 : Int32)), (0, .ref (bd 0)), (1, .int v1), (2, .int v2), (3, .int v3)]) hx hb dX4_areDifferent_18 hl (by decide) rfl (fun ls hl => ?_)
        refine lv_aload_n hx hb dX4_areDifferent_20 rfl (lv_at hl 2 rfl) ?_
        refine lv_iload_n hx hb dX4_areDifferent_21 rfl (lv_at hl 4 rfl) ?_
        refine lv_iload_n hx hb dX4_areDifferent_22 rfl (lv_at hl 5 rfl) ?_
        refine lv_iconst (v := (0 : Int32)) hx hb dX4_areDifferent_23 (by decide) ?_
        obtain ⟨x24, hg24, hf⟩ := pr_b hf
        refine pw_cViW (b := bd 0) (As := [.int v2, .int v3, .int (0 : Int32)]) (rest := []) ⟨hx, hb, hml, hown, hts⟩ (c_X4_transition fu (D := D) m_thrown m_states m_timerEvents m_transitions m_froms m_events m_variables m_relations m_numbers m_nexts m_sizes m_actions m_fired m_state m_time m_values m_runs m_dues m_emitted m_output m_ignored m_isCompiled m_classes m_numbersOf m_offsets m_useds m_tableSize m_owners m_isReached m_areApart v2 v3 (0 : Int32) hg24) (cwV 3 hts gX4_areDifferent_X4_transition rfl rfl rfl (by decide +kernel) ⟨Nat.le_of_ble_eq_true rfl, Nat.le_of_ble_eq_true rfl⟩) 0 4 rfl rfl hK hP hD hS hA rfl hl.1 rfl (Nat.le_of_ble_eq_true rfl) dX4_areDifferent_24 ⟨Nat.le_of_ble_eq_true rfl, Nat.le_of_ble_eq_true rfl⟩ (fun H locs hP hD hS => ?_)
        refine lv_istore (lv' := [(6, .int x24), (5, .int x15), (4, .int (0 : Int32)), (0, .ref (bd 0)), (1, .int v1), (2, .int v2), (3, .int v3)]) hx hb dX4_areDifferent_27 hl (by decide) rfl (fun ls hl => ?_)
        exact L29 fu v3 (0 : Int32) x15 x24 H locs ls hP hD hS (lv_sub hl [3, 4, 5, 6, 2, 1, 0] rfl) hf
  unfold X4_areDifferent at hf
  refine lv_iconst (v := (0 : Int32)) hx hb dX4_areDifferent_0 (by decide) ?_
  refine lv_istore_n (lv' := [(3, .int (0 : Int32)), (0, .ref (bd 0)), (1, .int v1), (2, .int v2)]) hx hb dX4_areDifferent_1 rfl hl (by decide) rfl (fun ls hl => ?_)
  exact L2 fu (0 : Int32) H locs ls hP hD hS (lv_sub hl [1, 2, 3, 0] rfl) hf
abbrev rmX4_takeApart : Room := { frames := 2, cells := 0, slots := 0, locals := 51 }
set_option maxHeartbeats 4000000 in
set_option maxRecDepth 100000 in
theorem c_X4_takeApart {l : Launch} {D : va_G} {bd : Nat → Nat} {cb : Nat → ClassId} (fu : Nat) (m_thrown m_states : Int32) (m_timerEvents : Nat → Int32) (m_transitions : Int32) (m_froms m_events m_variables m_relations m_numbers m_nexts m_sizes m_actions m_fired : Nat → Int32) (m_state : Int32) (m_time : Int64) (m_values m_runs : Nat → Int32) (m_dues : Nat → Int64) (m_emitted : Int32) (m_output : Nat → Int32) (m_ignored m_isCompiled m_classes : Int32) (m_numbersOf m_offsets m_useds : Nat → Int32) (m_tableSize : Int32) (m_owners m_isReached m_areApart : Nat → Int32) {o : Nat → Int32} (hf : X4_takeApart fu m_states m_transitions m_froms m_events m_variables m_relations m_numbers m_nexts m_sizes m_actions m_isReached m_areApart = some o) : Cv l yX4_takeApart wsX4_takeApart rmX4_takeApart D (MT cb) (MW bd cb m_thrown m_states m_timerEvents m_transitions m_froms m_events m_variables m_relations m_numbers m_nexts m_sizes m_actions m_fired m_state m_time m_values m_runs m_dues m_emitted m_output m_ignored m_isCompiled m_classes m_numbersOf m_offsets m_useds m_tableSize m_owners m_isReached m_areApart) [.ref (bd 0)] (MW bd cb m_thrown m_states m_timerEvents m_transitions m_froms m_events m_variables m_relations m_numbers m_nexts m_sizes m_actions m_fired m_state m_time m_values m_runs m_dues m_emitted m_output m_ignored m_isCompiled m_classes m_numbersOf m_offsets m_useds m_tableSize m_owners m_isReached o) := by
  intro sz
  refine pw_entry (Qc := fun A => pw_Qv D (MT cb) (MW bd cb m_thrown m_states m_timerEvents m_transitions m_froms m_events m_variables m_relations m_numbers m_nexts m_sizes m_actions m_fired m_state m_time m_values m_runs m_dues m_emitted m_output m_ignored m_isCompiled m_classes m_numbersOf m_offsets m_useds m_tableSize m_owners m_isReached o) A) (cc := cX4_takeApart) (maxL := 4) (ret := none) (by decide) rfl (Nat.le_of_ble_eq_true rfl) ?_ sz
  intro p e s m args below meth c A ls Z H locs hx hb hr hlocks hts hown hml hnm hK hP hD hS hA hl hZ
  have hown : s.vm.findClass RX4 = some m.cls := hown
  have hiX4 : ∀ w ∈ u_ws RX4 TX4 30, w ∈ wsX4_takeApart := by decide +kernel
  have f7 := hts (.fieldLink RX4 7 "ProtocolMachineModel" "states" "I") (by decide +kernel)
  have f70 := hts (.fieldLink RX4 70 "ProtocolMachineModel" "isReached" "[Z") (by decide +kernel)
  have f73 := hts (.fieldLink RX4 73 "ProtocolMachineModel" "areApart" "[Z") (by decide +kernel)
  have hl : lv_has ls 4 [(0, .ref (bd 0))] := hl
  have L24 : ∀ n24 : Nat, ∀ (m_areApart : Nat → Int32) (v1 : Int32) (H : Heap) (locs : List Loc) (ls : Array Slot), va_P D vwCl (MW bd cb m_thrown m_states m_timerEvents m_transitions m_froms m_events m_variables m_relations m_numbers m_nexts m_sizes m_actions m_fired m_state m_time m_values m_runs m_dues m_emitted m_output m_ignored m_isCompiled m_classes m_numbersOf m_offsets m_useds m_tableSize m_owners m_isReached m_areApart) H → va_D A (MW bd cb m_thrown m_states m_timerEvents m_transitions m_froms m_events m_variables m_relations m_numbers m_nexts m_sizes m_actions m_fired m_state m_time m_values m_runs m_dues m_emitted m_output m_ignored m_isCompiled m_classes m_numbersOf m_offsets m_useds m_tableSize m_owners m_isReached m_areApart) → va_S A s.heap H locs → lv_has ls 4 [(0, .ref (bd 0)), (1, .int v1)] → X4_takeApart_L24 fu m_states m_transitions m_froms m_events m_variables m_relations m_numbers m_nexts m_sizes m_actions m_isReached n24 m_areApart v1 = some o → W p l e rmX4_takeApart s m args below meth c H locs 0 0 Z (F0 m 24 ls []) := by
    intro n24
    induction n24 with
    | zero =>
      intro m_areApart v1 H locs ls hP hD hS hl hf
      exact pr_n hf
    | succ n24 ih24 =>
      have L32 : ∀ n32 : Nat, ∀ (m_areApart : Nat → Int32) (v1 v2 : Int32) (H : Heap) (locs : List Loc) (ls : Array Slot), va_P D vwCl (MW bd cb m_thrown m_states m_timerEvents m_transitions m_froms m_events m_variables m_relations m_numbers m_nexts m_sizes m_actions m_fired m_state m_time m_values m_runs m_dues m_emitted m_output m_ignored m_isCompiled m_classes m_numbersOf m_offsets m_useds m_tableSize m_owners m_isReached m_areApart) H → va_D A (MW bd cb m_thrown m_states m_timerEvents m_transitions m_froms m_events m_variables m_relations m_numbers m_nexts m_sizes m_actions m_fired m_state m_time m_values m_runs m_dues m_emitted m_output m_ignored m_isCompiled m_classes m_numbersOf m_offsets m_useds m_tableSize m_owners m_isReached m_areApart) → va_S A s.heap H locs → lv_has ls 4 [(0, .ref (bd 0)), (1, .int v1), (2, .int v2)] → X4_takeApart_L32 fu m_states m_transitions m_froms m_events m_variables m_relations m_numbers m_nexts m_sizes m_actions m_isReached (X4_takeApart_L24 fu m_states m_transitions m_froms m_events m_variables m_relations m_numbers m_nexts m_sizes m_actions m_isReached n24) n32 m_areApart v1 v2 = some o → W p l e rmX4_takeApart s m args below meth c H locs 0 0 Z (F0 m 32 ls []) := by
        intro n32
        induction n32 with
        | zero =>
          intro m_areApart v1 v2 H locs ls hP hD hS hl hf
          exact pr_n hf
        | succ n32 ih32 =>
          have L42 : ∀ n42 : Nat, ∀ (m_areApart : Nat → Int32) (v1 v2 v3 : Int32) (H : Heap) (locs : List Loc) (ls : Array Slot), va_P D vwCl (MW bd cb m_thrown m_states m_timerEvents m_transitions m_froms m_events m_variables m_relations m_numbers m_nexts m_sizes m_actions m_fired m_state m_time m_values m_runs m_dues m_emitted m_output m_ignored m_isCompiled m_classes m_numbersOf m_offsets m_useds m_tableSize m_owners m_isReached m_areApart) H → va_D A (MW bd cb m_thrown m_states m_timerEvents m_transitions m_froms m_events m_variables m_relations m_numbers m_nexts m_sizes m_actions m_fired m_state m_time m_values m_runs m_dues m_emitted m_output m_ignored m_isCompiled m_classes m_numbersOf m_offsets m_useds m_tableSize m_owners m_isReached m_areApart) → va_S A s.heap H locs → lv_has ls 4 [(0, .ref (bd 0)), (1, .int v1), (2, .int v2), (3, .int v3)] → X4_takeApart_L42 fu m_states m_transitions m_froms m_events m_variables m_relations m_numbers m_nexts m_sizes m_actions m_isReached (X4_takeApart_L24 fu m_states m_transitions m_froms m_events m_variables m_relations m_numbers m_nexts m_sizes m_actions m_isReached n24) (X4_takeApart_L32 fu m_states m_transitions m_froms m_events m_variables m_relations m_numbers m_nexts m_sizes m_actions m_isReached (X4_takeApart_L24 fu m_states m_transitions m_froms m_events m_variables m_relations m_numbers m_nexts m_sizes m_actions m_isReached n24) n32) n42 m_areApart v1 v2 v3 = some o → W p l e rmX4_takeApart s m args below meth c H locs 0 0 Z (F0 m 42 ls []) := by
            intro n42
            induction n42 with
            | zero =>
              intro m_areApart v1 v2 v3 H locs ls hP hD hS hl hf
              exact pr_n hf
            | succ n42 ih42 =>
              intro m_areApart v1 v2 v3 H locs ls hP hD hS hl hf
              replace hf : X4_takeApart_B42 fu m_states m_transitions m_froms m_events m_variables m_relations m_numbers m_nexts m_sizes m_actions m_isReached (X4_takeApart_L24 fu m_states m_transitions m_froms m_events m_variables m_relations m_numbers m_nexts m_sizes m_actions m_isReached  n24) (X4_takeApart_L32 fu m_states m_transitions m_froms m_events m_variables m_relations m_numbers m_nexts m_sizes m_actions m_isReached (X4_takeApart_L24 fu m_states m_transitions m_froms m_events m_variables m_relations m_numbers m_nexts m_sizes m_actions m_isReached  n24) n32) (X4_takeApart_L42 fu m_states m_transitions m_froms m_events m_variables m_relations m_numbers m_nexts m_sizes m_actions m_isReached (X4_takeApart_L24 fu m_states m_transitions m_froms m_events m_variables m_relations m_numbers m_nexts m_sizes m_actions m_isReached  n24) (X4_takeApart_L32 fu m_states m_transitions m_froms m_events m_variables m_relations m_numbers m_nexts m_sizes m_actions m_isReached (X4_takeApart_L24 fu m_states m_transitions m_froms m_events m_variables m_relations m_numbers m_nexts m_sizes m_actions m_isReached  n24) n32) n42) m_areApart v1 v2 v3 = some o := hf
              unfold X4_takeApart_B42 at hf
              refine lv_iload_n hx hb dX4_takeApart_42 rfl (lv_at hl 3 rfl) ?_
              refine lv_aload_n hx hb dX4_takeApart_43 rfl (lv_at hl 0 rfl) ?_
              refine va_get (D := D) (ci := 4) (v := .int m_states) (C := RX4) (T := TX4) (N := 30) hx hb hts hiX4 hown hK hP 0 rfl rfl 1 (by decide) f7 (fun _ h9 => h9) rfl dX4_takeApart_44 ?_
              refine lv_icmp_ge (tgt := 126) hx hb dX4_takeApart_47 (by decide) (fun hc => ?_) (fun hc => ?_)
              · have hf := pr_t hf hc
                refine lv_iinc (v := (v2 + (1 : Int32))) (lv' := [(2, .int (v2 + (1 : Int32))), (0, .ref (bd 0)), (1, .int v1), (3, .int v3)]) hx hb dX4_takeApart_126 hl (k := 2) rfl rfl (by decide) rfl (fun ls hl => ?_)
                refine lv_goto (tgt := 32) hx hb dX4_takeApart_129 (by decide) ?_
                exact ih32 m_areApart v1 (v2 + (1 : Int32)) H locs ls hP hD hS (lv_sub hl [1, 2, 0] rfl) hf
              · have hf := pr_f hf hc
                refine lv_aload_n hx hb dX4_takeApart_50 rfl (lv_at hl 0 rfl) ?_
                refine va_get (D := D) (ci := 4) (v := .ref (bd 20)) (C := RX4) (T := TX4) (N := 30) hx hb hts hiX4 hown hK hP 0 rfl rfl 29 (by decide) f73 (fun _ h9 => h9) rfl dX4_takeApart_51 ?_
                refine lv_bipush (v := (12 : Int32)) hx hb dX4_takeApart_54 (by decide) ?_
                refine lv_iload_n hx hb dX4_takeApart_56 rfl (lv_at hl 2 rfl) ?_
                refine lv_imul hx hb dX4_takeApart_57 ?_
                refine lv_iload_n hx hb dX4_takeApart_58 rfl (lv_at hl 3 rfl) ?_
                refine lv_iadd hx hb dX4_takeApart_59 ?_
                obtain ⟨hi60, hf⟩ := pr_in hf
                refine va_zald hx hb hK hP 20 19 rfl rfl hi60 dX4_takeApart_60 ?_
                refine lv_if_ne (tgt := 120) hx hb dX4_takeApart_61 (by decide) (fun hc => ?_) (fun hc => ?_)
                · have hf := pr_f hf hc
                  refine lv_iinc (v := (v3 + (1 : Int32))) (lv' := [(3, .int (v3 + (1 : Int32))), (0, .ref (bd 0)), (1, .int v1), (2, .int v2)]) hx hb dX4_takeApart_120 hl (k := 3) rfl rfl (by decide) rfl (fun ls hl => ?_)
                  refine lv_goto (tgt := 42) hx hb dX4_takeApart_123 (by decide) ?_
                  exact ih42 m_areApart v1 v2 (v3 + (1 : Int32)) H locs ls hP hD hS (lv_sub hl [1, 2, 3, 0] rfl) hf
                · have hf := pr_t hf hc
                  refine lv_aload_n hx hb dX4_takeApart_64 rfl (lv_at hl 0 rfl) ?_
                  refine va_get (D := D) (ci := 4) (v := .ref (bd 19)) (C := RX4) (T := TX4) (N := 30) hx hb hts hiX4 hown hK hP 0 rfl rfl 28 (by decide) f70 (fun _ h9 => h9) rfl dX4_takeApart_65 ?_
                  refine lv_iload_n hx hb dX4_takeApart_68 rfl (lv_at hl 2 rfl) ?_
                  obtain ⟨hi69, hf⟩ := pr_in hf
                  refine va_zald hx hb hK hP 19 18 rfl rfl hi69 dX4_takeApart_69 ?_
                  refine lv_if_eq (tgt := 120) hx hb dX4_takeApart_70 (by decide) (fun hc => ?_) (fun hc => ?_)
                  · have hf := pr_t hf hc
                    refine lv_iinc (v := (v3 + (1 : Int32))) (lv' := [(3, .int (v3 + (1 : Int32))), (0, .ref (bd 0)), (1, .int v1), (2, .int v2)]) hx hb dX4_takeApart_120 hl (k := 3) rfl rfl (by decide) rfl (fun ls hl => ?_)
                    refine lv_goto (tgt := 42) hx hb dX4_takeApart_123 (by decide) ?_
                    exact ih42 m_areApart v1 v2 (v3 + (1 : Int32)) H locs ls hP hD hS (lv_sub hl [1, 2, 3, 0] rfl) hf
                  · have hf := pr_f hf hc
                    refine lv_aload_n hx hb dX4_takeApart_73 rfl (lv_at hl 0 rfl) ?_
                    refine va_get (D := D) (ci := 4) (v := .ref (bd 19)) (C := RX4) (T := TX4) (N := 30) hx hb hts hiX4 hown hK hP 0 rfl rfl 28 (by decide) f70 (fun _ h9 => h9) rfl dX4_takeApart_74 ?_
                    refine lv_iload_n hx hb dX4_takeApart_77 rfl (lv_at hl 3 rfl) ?_
                    obtain ⟨hi78, hf⟩ := pr_in hf
                    refine va_zald hx hb hK hP 19 18 rfl rfl hi78 dX4_takeApart_78 ?_
                    refine lv_if_eq (tgt := 120) hx hb dX4_takeApart_79 (by decide) (fun hc => ?_) (fun hc => ?_)
                    · have hf := pr_t hf hc
                      refine lv_iinc (v := (v3 + (1 : Int32))) (lv' := [(3, .int (v3 + (1 : Int32))), (0, .ref (bd 0)), (1, .int v1), (2, .int v2)]) hx hb dX4_takeApart_120 hl (k := 3) rfl rfl (by decide) rfl (fun ls hl => ?_)
                      refine lv_goto (tgt := 42) hx hb dX4_takeApart_123 (by decide) ?_
                      exact ih42 m_areApart v1 v2 (v3 + (1 : Int32)) H locs ls hP hD hS (lv_sub hl [1, 2, 3, 0] rfl) hf
                    · have hf := pr_f hf hc
                      refine lv_aload_n hx hb dX4_takeApart_82 rfl (lv_at hl 0 rfl) ?_
                      refine lv_iload_n hx hb dX4_takeApart_83 rfl (lv_at hl 2 rfl) ?_
                      refine lv_iload_n hx hb dX4_takeApart_84 rfl (lv_at hl 3 rfl) ?_
                      obtain ⟨x85, hg85, hf⟩ := pr_b hf
                      refine pw_cViW (b := bd 0) (As := [.int v2, .int v3]) (rest := []) ⟨hx, hb, hml, hown, hts⟩ (c_X4_areDifferent fu (D := D) m_thrown m_states m_timerEvents m_transitions m_froms m_events m_variables m_relations m_numbers m_nexts m_sizes m_actions m_fired m_state m_time m_values m_runs m_dues m_emitted m_output m_ignored m_isCompiled m_classes m_numbersOf m_offsets m_useds m_tableSize m_owners m_isReached m_areApart v2 v3 hg85) (cwV 2 hts gX4_takeApart_X4_areDifferent rfl rfl rfl (by decide +kernel) ⟨Nat.le_of_ble_eq_true rfl, Nat.le_of_ble_eq_true rfl⟩) 0 4 rfl rfl hK hP hD hS hA rfl hl.1 rfl (Nat.le_of_ble_eq_true rfl) dX4_takeApart_85 ⟨Nat.le_of_ble_eq_true rfl, Nat.le_of_ble_eq_true rfl⟩ (fun H locs hP hD hS => ?_)
                      refine lv_if_ne (tgt := 94) hx hb dX4_takeApart_88 (by decide) (fun hc => ?_) (fun hc => ?_)
                      · have hf := pr_f hf hc
                        refine lv_aload_n hx hb dX4_takeApart_94 rfl (lv_at hl 0 rfl) ?_
                        refine va_get (D := D) (ci := 4) (v := .ref (bd 20)) (C := RX4) (T := TX4) (N := 30) hx hb hts hiX4 hown hK hP 0 rfl rfl 29 (by decide) f73 (fun _ h9 => h9) rfl dX4_takeApart_95 ?_
                        refine lv_bipush (v := (12 : Int32)) hx hb dX4_takeApart_98 (by decide) ?_
                        refine lv_iload_n hx hb dX4_takeApart_100 rfl (lv_at hl 2 rfl) ?_
                        refine lv_imul hx hb dX4_takeApart_101 ?_
                        refine lv_iload_n hx hb dX4_takeApart_102 rfl (lv_at hl 3 rfl) ?_
                        refine lv_iadd hx hb dX4_takeApart_103 ?_
                        refine lv_iconst (v := (1 : Int32)) hx hb dX4_takeApart_104 (by decide) ?_
                        refine va_zast hx hb hK hP hD hS 20 19 rfl rfl hi60 dX4_takeApart_105 (fun H locs hP hD hS => ?_)
                        have hP : va_P D vwCl (MW bd cb m_thrown m_states m_timerEvents m_transitions m_froms m_events m_variables m_relations m_numbers m_nexts m_sizes m_actions m_fired m_state m_time m_values m_runs m_dues m_emitted m_output m_ignored m_isCompiled m_classes m_numbersOf m_offsets m_useds m_tableSize m_owners m_isReached (upd m_areApart (((12 : Int32) * v2) + v3).toNatClampNeg (1 : Int32))) H := hP
                        have hD : va_D A (MW bd cb m_thrown m_states m_timerEvents m_transitions m_froms m_events m_variables m_relations m_numbers m_nexts m_sizes m_actions m_fired m_state m_time m_values m_runs m_dues m_emitted m_output m_ignored m_isCompiled m_classes m_numbersOf m_offsets m_useds m_tableSize m_owners m_isReached (upd m_areApart (((12 : Int32) * v2) + v3).toNatClampNeg (1 : Int32))) := hD
                        refine lv_aload_n hx hb dX4_takeApart_106 rfl (lv_at hl 0 rfl) ?_
                        refine va_get (D := D) (ci := 4) (v := .ref (bd 20)) (C := RX4) (T := TX4) (N := 30) hx hb hts hiX4 hown hK hP 0 rfl rfl 29 (by decide) f73 (fun _ h9 => h9) rfl dX4_takeApart_107 ?_
                        refine lv_bipush (v := (12 : Int32)) hx hb dX4_takeApart_110 (by decide) ?_
                        refine lv_iload_n hx hb dX4_takeApart_112 rfl (lv_at hl 3 rfl) ?_
                        refine lv_imul hx hb dX4_takeApart_113 ?_
                        refine lv_iload_n hx hb dX4_takeApart_114 rfl (lv_at hl 2 rfl) ?_
                        refine lv_iadd hx hb dX4_takeApart_115 ?_
                        refine lv_iconst (v := (1 : Int32)) hx hb dX4_takeApart_116 (by decide) ?_
                        obtain ⟨hi117, hf⟩ := pr_in hf
                        refine va_zast hx hb hK hP hD hS 20 19 rfl rfl hi117 dX4_takeApart_117 (fun H locs hP hD hS => ?_)
                        have hP : va_P D vwCl (MW bd cb m_thrown m_states m_timerEvents m_transitions m_froms m_events m_variables m_relations m_numbers m_nexts m_sizes m_actions m_fired m_state m_time m_values m_runs m_dues m_emitted m_output m_ignored m_isCompiled m_classes m_numbersOf m_offsets m_useds m_tableSize m_owners m_isReached (upd (upd m_areApart (((12 : Int32) * v2) + v3).toNatClampNeg (1 : Int32)) (((12 : Int32) * v3) + v2).toNatClampNeg (1 : Int32))) H := hP
                        have hD : va_D A (MW bd cb m_thrown m_states m_timerEvents m_transitions m_froms m_events m_variables m_relations m_numbers m_nexts m_sizes m_actions m_fired m_state m_time m_values m_runs m_dues m_emitted m_output m_ignored m_isCompiled m_classes m_numbersOf m_offsets m_useds m_tableSize m_owners m_isReached (upd (upd m_areApart (((12 : Int32) * v2) + v3).toNatClampNeg (1 : Int32)) (((12 : Int32) * v3) + v2).toNatClampNeg (1 : Int32))) := hD
                        refine lv_iconst (v := (1 : Int32)) hx hb dX4_takeApart_118 (by decide) ?_
                        refine lv_istore_n (lv' := [(1, .int (1 : Int32)), (0, .ref (bd 0)), (2, .int v2), (3, .int v3)]) hx hb dX4_takeApart_119 rfl hl (by decide) rfl (fun ls hl => ?_)
                        refine lv_iinc (v := (v3 + (1 : Int32))) (lv' := [(3, .int (v3 + (1 : Int32))), (1, .int (1 : Int32)), (0, .ref (bd 0)), (2, .int v2)]) hx hb dX4_takeApart_120 hl (k := 3) rfl rfl (by decide) rfl (fun ls hl => ?_)
                        refine lv_goto (tgt := 42) hx hb dX4_takeApart_123 (by decide) ?_
                        exact ih42 (upd (upd m_areApart (((12 : Int32) * v2) + v3).toNatClampNeg (1 : Int32)) (((12 : Int32) * v3) + v2).toNatClampNeg (1 : Int32)) (1 : Int32) v2 (v3 + (1 : Int32)) H locs ls hP hD hS (lv_sub hl [2, 1, 3, 0] rfl) hf
                      · have hf := pr_t hf hc
                        refine lv_goto (tgt := 120) hx hb dX4_takeApart_91 (by decide) ?_
                        refine lv_iinc (v := (v3 + (1 : Int32))) (lv' := [(3, .int (v3 + (1 : Int32))), (0, .ref (bd 0)), (1, .int v1), (2, .int v2)]) hx hb dX4_takeApart_120 hl (k := 3) rfl rfl (by decide) rfl (fun ls hl => ?_)
                        refine lv_goto (tgt := 42) hx hb dX4_takeApart_123 (by decide) ?_
                        exact ih42 m_areApart v1 v2 (v3 + (1 : Int32)) H locs ls hP hD hS (lv_sub hl [1, 2, 3, 0] rfl) hf
          intro m_areApart v1 v2 H locs ls hP hD hS hl hf
          replace hf : X4_takeApart_B32 fu m_states m_transitions m_froms m_events m_variables m_relations m_numbers m_nexts m_sizes m_actions m_isReached (X4_takeApart_L24 fu m_states m_transitions m_froms m_events m_variables m_relations m_numbers m_nexts m_sizes m_actions m_isReached  n24) (X4_takeApart_L32 fu m_states m_transitions m_froms m_events m_variables m_relations m_numbers m_nexts m_sizes m_actions m_isReached (X4_takeApart_L24 fu m_states m_transitions m_froms m_events m_variables m_relations m_numbers m_nexts m_sizes m_actions m_isReached  n24) n32) m_areApart v1 v2 = some o := hf
          unfold X4_takeApart_B32 at hf
          refine lv_iload_n hx hb dX4_takeApart_32 rfl (lv_at hl 2 rfl) ?_
          refine lv_aload_n hx hb dX4_takeApart_33 rfl (lv_at hl 0 rfl) ?_
          refine va_get (D := D) (ci := 4) (v := .int m_states) (C := RX4) (T := TX4) (N := 30) hx hb hts hiX4 hown hK hP 0 rfl rfl 1 (by decide) f7 (fun _ h9 => h9) rfl dX4_takeApart_34 ?_
          refine lv_icmp_ge (tgt := 132) hx hb dX4_takeApart_37 (by decide) (fun hc => ?_) (fun hc => ?_)
          · have hf := pr_t hf hc
            refine lv_goto (tgt := 24) hx hb dX4_takeApart_132 (by decide) ?_
            exact ih24 m_areApart v1 H locs ls hP hD hS (lv_sub hl [0, 1] rfl) hf
          · have hf := pr_f hf hc
            refine lv_iconst (v := (0 : Int32)) hx hb dX4_takeApart_40 (by decide) ?_
            refine lv_istore_n (lv' := [(3, .int (0 : Int32)), (0, .ref (bd 0)), (1, .int v1), (2, .int v2)]) hx hb dX4_takeApart_41 rfl hl (by decide) rfl (fun ls hl => ?_)
            exact L42 fu m_areApart v1 v2 (0 : Int32) H locs ls hP hD hS (lv_sub hl [1, 2, 3, 0] rfl) hf
      intro m_areApart v1 H locs ls hP hD hS hl hf
      replace hf : X4_takeApart_B24 fu m_states m_transitions m_froms m_events m_variables m_relations m_numbers m_nexts m_sizes m_actions m_isReached (X4_takeApart_L24 fu m_states m_transitions m_froms m_events m_variables m_relations m_numbers m_nexts m_sizes m_actions m_isReached  n24) m_areApart v1 = some o := hf
      unfold X4_takeApart_B24 at hf
      refine lv_iload_n hx hb dX4_takeApart_24 rfl (lv_at hl 1 rfl) ?_
      refine lv_if_eq (tgt := 135) hx hb dX4_takeApart_25 (by decide) (fun hc => ?_) (fun hc => ?_)
      · have hf := pr_t hf hc
        obtain rfl := Option.some.inj hf
        subst hZ
        exact pw_rv hx hb hr hlocks hK hP hD hS (Nat.le_of_ble_eq_true rfl) (Nat.le_of_ble_eq_true rfl) dX4_takeApart_135
      · have hf := pr_f hf hc
        refine lv_iconst (v := (0 : Int32)) hx hb dX4_takeApart_28 (by decide) ?_
        refine lv_istore_n (lv' := [(1, .int (0 : Int32)), (0, .ref (bd 0))]) hx hb dX4_takeApart_29 rfl hl (by decide) rfl (fun ls hl => ?_)
        refine lv_iconst (v := (0 : Int32)) hx hb dX4_takeApart_30 (by decide) ?_
        refine lv_istore_n (lv' := [(2, .int (0 : Int32)), (1, .int (0 : Int32)), (0, .ref (bd 0))]) hx hb dX4_takeApart_31 rfl hl (by decide) rfl (fun ls hl => ?_)
        exact L32 fu m_areApart (0 : Int32) (0 : Int32) H locs ls hP hD hS (lv_sub hl [2, 1, 0] rfl) hf
  have L2 : ∀ n2 : Nat, ∀ (m_areApart : Nat → Int32) (v1 : Int32) (H : Heap) (locs : List Loc) (ls : Array Slot), va_P D vwCl (MW bd cb m_thrown m_states m_timerEvents m_transitions m_froms m_events m_variables m_relations m_numbers m_nexts m_sizes m_actions m_fired m_state m_time m_values m_runs m_dues m_emitted m_output m_ignored m_isCompiled m_classes m_numbersOf m_offsets m_useds m_tableSize m_owners m_isReached m_areApart) H → va_D A (MW bd cb m_thrown m_states m_timerEvents m_transitions m_froms m_events m_variables m_relations m_numbers m_nexts m_sizes m_actions m_fired m_state m_time m_values m_runs m_dues m_emitted m_output m_ignored m_isCompiled m_classes m_numbersOf m_offsets m_useds m_tableSize m_owners m_isReached m_areApart) → va_S A s.heap H locs → lv_has ls 4 [(0, .ref (bd 0)), (1, .int v1)] → X4_takeApart_L2 fu m_states m_transitions m_froms m_events m_variables m_relations m_numbers m_nexts m_sizes m_actions m_isReached n2 m_areApart v1 = some o → W p l e rmX4_takeApart s m args below meth c H locs 0 0 Z (F0 m 2 ls []) := by
    intro n2
    induction n2 with
    | zero =>
      intro m_areApart v1 H locs ls hP hD hS hl hf
      exact pr_n hf
    | succ n2 ih2 =>
      intro m_areApart v1 H locs ls hP hD hS hl hf
      replace hf : X4_takeApart_B2 fu m_states m_transitions m_froms m_events m_variables m_relations m_numbers m_nexts m_sizes m_actions m_isReached (X4_takeApart_L2 fu m_states m_transitions m_froms m_events m_variables m_relations m_numbers m_nexts m_sizes m_actions m_isReached  n2) m_areApart v1 = some o := hf
      unfold X4_takeApart_B2 at hf
      refine lv_iload_n hx hb dX4_takeApart_2 rfl (lv_at hl 1 rfl) ?_
      refine lv_sipush (v := (144 : Int32)) hx hb dX4_takeApart_3 (by decide) ?_
      refine lv_icmp_ge (tgt := 22) hx hb dX4_takeApart_6 (by decide) (fun hc => ?_) (fun hc => ?_)
      · have hf := pr_t hf hc
        refine lv_iconst (v := (1 : Int32)) hx hb dX4_takeApart_22 (by decide) ?_
        refine lv_istore_n (lv' := [(1, .int (1 : Int32)), (0, .ref (bd 0))]) hx hb dX4_takeApart_23 rfl hl (by decide) rfl (fun ls hl => ?_)
        exact L24 fu m_areApart (1 : Int32) H locs ls hP hD hS (lv_sub hl [1, 0] rfl) hf
      · have hf := pr_f hf hc
        refine lv_aload_n hx hb dX4_takeApart_9 rfl (lv_at hl 0 rfl) ?_
        refine va_get (D := D) (ci := 4) (v := .ref (bd 20)) (C := RX4) (T := TX4) (N := 30) hx hb hts hiX4 hown hK hP 0 rfl rfl 29 (by decide) f73 (fun _ h9 => h9) rfl dX4_takeApart_10 ?_
        refine lv_iload_n hx hb dX4_takeApart_13 rfl (lv_at hl 1 rfl) ?_
        refine lv_iconst (v := (0 : Int32)) hx hb dX4_takeApart_14 (by decide) ?_
        obtain ⟨hi15, hf⟩ := pr_in hf
        refine va_zast hx hb hK hP hD hS 20 19 rfl rfl hi15 dX4_takeApart_15 (fun H locs hP hD hS => ?_)
        have hP : va_P D vwCl (MW bd cb m_thrown m_states m_timerEvents m_transitions m_froms m_events m_variables m_relations m_numbers m_nexts m_sizes m_actions m_fired m_state m_time m_values m_runs m_dues m_emitted m_output m_ignored m_isCompiled m_classes m_numbersOf m_offsets m_useds m_tableSize m_owners m_isReached (upd m_areApart v1.toNatClampNeg (0 : Int32))) H := hP
        have hD : va_D A (MW bd cb m_thrown m_states m_timerEvents m_transitions m_froms m_events m_variables m_relations m_numbers m_nexts m_sizes m_actions m_fired m_state m_time m_values m_runs m_dues m_emitted m_output m_ignored m_isCompiled m_classes m_numbersOf m_offsets m_useds m_tableSize m_owners m_isReached (upd m_areApart v1.toNatClampNeg (0 : Int32))) := hD
        refine lv_iinc (v := (v1 + (1 : Int32))) (lv' := [(1, .int (v1 + (1 : Int32))), (0, .ref (bd 0))]) hx hb dX4_takeApart_16 hl (k := 1) rfl rfl (by decide) rfl (fun ls hl => ?_)
        refine lv_goto (tgt := 2) hx hb dX4_takeApart_19 (by decide) ?_
        exact ih2 (upd m_areApart v1.toNatClampNeg (0 : Int32)) (v1 + (1 : Int32)) H locs ls hP hD hS (lv_sub hl [1, 0] rfl) hf
  unfold X4_takeApart at hf
  refine lv_iconst (v := (0 : Int32)) hx hb dX4_takeApart_0 (by decide) ?_
  refine lv_istore_n (lv' := [(1, .int (0 : Int32)), (0, .ref (bd 0))]) hx hb dX4_takeApart_1 rfl hl (by decide) rfl (fun ls hl => ?_)
  exact L2 fu m_areApart (0 : Int32) H locs ls hP hD hS (lv_sub hl [1, 0] rfl) hf
abbrev rmX4_usedEvents : Room := { frames := 0, cells := 0, slots := 0, locals := 0 }
set_option maxHeartbeats 4000000 in
set_option maxRecDepth 100000 in
theorem c_X4_usedEvents {l : Launch} {D : va_G} {bd : Nat → Nat} {cb : Nat → ClassId} (fu : Nat) (m_thrown m_states : Int32) (m_timerEvents : Nat → Int32) (m_transitions : Int32) (m_froms m_events m_variables m_relations m_numbers m_nexts m_sizes m_actions m_fired : Nat → Int32) (m_state : Int32) (m_time : Int64) (m_values m_runs : Nat → Int32) (m_dues : Nat → Int64) (m_emitted : Int32) (m_output : Nat → Int32) (m_ignored m_isCompiled m_classes : Int32) (m_numbersOf m_offsets m_useds : Nat → Int32) (m_tableSize : Int32) (m_owners m_isReached m_areApart : Nat → Int32) (v1 : Int32) {o : Int32} (hf : X4_usedEvents fu m_transitions m_froms m_events v1 = some o) : Ci l yX4_usedEvents wsX4_usedEvents rmX4_usedEvents D (MT cb) (MW bd cb m_thrown m_states m_timerEvents m_transitions m_froms m_events m_variables m_relations m_numbers m_nexts m_sizes m_actions m_fired m_state m_time m_values m_runs m_dues m_emitted m_output m_ignored m_isCompiled m_classes m_numbersOf m_offsets m_useds m_tableSize m_owners m_isReached m_areApart) [.ref (bd 0), .int v1] o (MW bd cb m_thrown m_states m_timerEvents m_transitions m_froms m_events m_variables m_relations m_numbers m_nexts m_sizes m_actions m_fired m_state m_time m_values m_runs m_dues m_emitted m_output m_ignored m_isCompiled m_classes m_numbersOf m_offsets m_useds m_tableSize m_owners m_isReached m_areApart) := by
  intro sz
  refine pw_entry (Qc := fun A => pw_Qi D (MT cb) (MW bd cb m_thrown m_states m_timerEvents m_transitions m_froms m_events m_variables m_relations m_numbers m_nexts m_sizes m_actions m_fired m_state m_time m_values m_runs m_dues m_emitted m_output m_ignored m_isCompiled m_classes m_numbersOf m_offsets m_useds m_tableSize m_owners m_isReached m_areApart) A o) (cc := cX4_usedEvents) (maxL := 4) (ret := (some .int)) (by decide) rfl (Nat.le_of_ble_eq_true rfl) ?_ sz
  intro p e s m args below meth c A ls Z H locs hx hb hr hlocks hts hown hml hnm hK hP hD hS hA hl hZ
  have hown : s.vm.findClass RX4 = some m.cls := hown
  have hiX4 : ∀ w ∈ u_ws RX4 TX4 30, w ∈ wsX4_usedEvents := by decide +kernel
  have f17 := hts (.fieldLink RX4 17 "ProtocolMachineModel" "froms" "[I") (by decide +kernel)
  have f20 := hts (.fieldLink RX4 20 "ProtocolMachineModel" "events" "[I") (by decide +kernel)
  have f83 := hts (.fieldLink RX4 83 "ProtocolMachineModel" "transitions" "I") (by decide +kernel)
  have hl : lv_has ls 4 [(0, .ref (bd 0)), (1, .int v1)] := hl
  have L4 : ∀ n4 : Nat, ∀ (v2 v3 : Int32) (H : Heap) (locs : List Loc) (ls : Array Slot), va_P D vwCl (MW bd cb m_thrown m_states m_timerEvents m_transitions m_froms m_events m_variables m_relations m_numbers m_nexts m_sizes m_actions m_fired m_state m_time m_values m_runs m_dues m_emitted m_output m_ignored m_isCompiled m_classes m_numbersOf m_offsets m_useds m_tableSize m_owners m_isReached m_areApart) H → va_D A (MW bd cb m_thrown m_states m_timerEvents m_transitions m_froms m_events m_variables m_relations m_numbers m_nexts m_sizes m_actions m_fired m_state m_time m_values m_runs m_dues m_emitted m_output m_ignored m_isCompiled m_classes m_numbersOf m_offsets m_useds m_tableSize m_owners m_isReached m_areApart) → va_S A s.heap H locs → lv_has ls 4 [(0, .ref (bd 0)), (1, .int v1), (2, .int v2), (3, .int v3)] → X4_usedEvents_L4 m_transitions m_froms m_events v1 n4 v2 v3 = some o → W p l e rmX4_usedEvents s m args below meth c H locs 0 0 Z (F0 m 4 ls []) := by
    intro n4
    induction n4 with
    | zero =>
      intro v2 v3 H locs ls hP hD hS hl hf
      exact pr_n hf
    | succ n4 ih4 =>
      intro v2 v3 H locs ls hP hD hS hl hf
      replace hf : X4_usedEvents_B4 m_transitions m_froms m_events v1 (X4_usedEvents_L4 m_transitions m_froms m_events v1  n4) v2 v3 = some o := hf
      unfold X4_usedEvents_B4 at hf
      refine lv_iload_n hx hb dX4_usedEvents_4 rfl (lv_at hl 3 rfl) ?_
      refine lv_aload_n hx hb dX4_usedEvents_5 rfl (lv_at hl 0 rfl) ?_
      refine va_get (D := D) (ci := 4) (v := .int m_transitions) (C := RX4) (T := TX4) (N := 30) hx hb hts hiX4 hown hK hP 0 rfl rfl 3 (by decide) f83 (fun _ h9 => h9) rfl dX4_usedEvents_6 ?_
      refine lv_icmp_ge (tgt := 39) hx hb dX4_usedEvents_9 (by decide) (fun hc => ?_) (fun hc => ?_)
      · have hf := pr_t hf hc
        refine lv_iload_n hx hb dX4_usedEvents_39 rfl (lv_at hl 2 rfl) ?_
        obtain rfl := Option.some.inj hf
        subst hZ
        exact pw_ri hx hb hr hlocks hK hP hD hS (Nat.le_of_ble_eq_true rfl) (Nat.le_of_ble_eq_true rfl) dX4_usedEvents_40
      · have hf := pr_f hf hc
        refine lv_aload_n hx hb dX4_usedEvents_12 rfl (lv_at hl 0 rfl) ?_
        refine va_get (D := D) (ci := 4) (v := .ref (bd 2)) (C := RX4) (T := TX4) (N := 30) hx hb hts hiX4 hown hK hP 0 rfl rfl 4 (by decide) f17 (fun _ h9 => h9) rfl dX4_usedEvents_13 ?_
        refine lv_iload_n hx hb dX4_usedEvents_16 rfl (lv_at hl 3 rfl) ?_
        obtain ⟨hi17, hf⟩ := pr_in hf
        refine va_iald hx hb hK hP 2 1 rfl rfl hi17 dX4_usedEvents_17 ?_
        refine lv_iload_n hx hb dX4_usedEvents_18 rfl (lv_at hl 1 rfl) ?_
        refine lv_icmp_ne (tgt := 33) hx hb dX4_usedEvents_19 (by decide) (fun hc => ?_) (fun hc => ?_)
        · have hf := pr_f hf hc
          refine lv_iinc (v := (v3 + (1 : Int32))) (lv' := [(3, .int (v3 + (1 : Int32))), (0, .ref (bd 0)), (1, .int v1), (2, .int v2)]) hx hb dX4_usedEvents_33 hl (k := 3) rfl rfl (by decide) rfl (fun ls hl => ?_)
          refine lv_goto (tgt := 4) hx hb dX4_usedEvents_36 (by decide) ?_
          exact ih4 v2 (v3 + (1 : Int32)) H locs ls hP hD hS (lv_sub hl [1, 2, 3, 0] rfl) hf
        · have hf := pr_t hf hc
          refine lv_iload_n hx hb dX4_usedEvents_22 rfl (lv_at hl 2 rfl) ?_
          refine lv_iconst (v := (1 : Int32)) hx hb dX4_usedEvents_23 (by decide) ?_
          refine lv_aload_n hx hb dX4_usedEvents_24 rfl (lv_at hl 0 rfl) ?_
          refine va_get (D := D) (ci := 4) (v := .ref (bd 3)) (C := RX4) (T := TX4) (N := 30) hx hb hts hiX4 hown hK hP 0 rfl rfl 5 (by decide) f20 (fun _ h9 => h9) rfl dX4_usedEvents_25 ?_
          refine lv_iload_n hx hb dX4_usedEvents_28 rfl (lv_at hl 3 rfl) ?_
          refine va_iald hx hb hK hP 3 2 rfl rfl hi17 dX4_usedEvents_29 ?_
          refine lv_ishl hx hb dX4_usedEvents_30 ?_
          refine lv_ior hx hb dX4_usedEvents_31 ?_
          refine lv_istore_n (lv' := [(2, .int (v2 ||| ((1 : Int32) <<< ((m_events v3.toNatClampNeg) &&& 31)))), (0, .ref (bd 0)), (1, .int v1), (3, .int v3)]) hx hb dX4_usedEvents_32 rfl hl (by decide) rfl (fun ls hl => ?_)
          refine lv_iinc (v := (v3 + (1 : Int32))) (lv' := [(3, .int (v3 + (1 : Int32))), (2, .int (v2 ||| ((1 : Int32) <<< ((m_events v3.toNatClampNeg) &&& 31)))), (0, .ref (bd 0)), (1, .int v1)]) hx hb dX4_usedEvents_33 hl (k := 3) rfl rfl (by decide) rfl (fun ls hl => ?_)
          refine lv_goto (tgt := 4) hx hb dX4_usedEvents_36 (by decide) ?_
          exact ih4 (v2 ||| ((1 : Int32) <<< ((m_events v3.toNatClampNeg) &&& 31))) (v3 + (1 : Int32)) H locs ls hP hD hS (lv_sub hl [2, 3, 1, 0] rfl) hf
  unfold X4_usedEvents at hf
  refine lv_iconst (v := (0 : Int32)) hx hb dX4_usedEvents_0 (by decide) ?_
  refine lv_istore_n (lv' := [(2, .int (0 : Int32)), (0, .ref (bd 0)), (1, .int v1)]) hx hb dX4_usedEvents_1 rfl hl (by decide) rfl (fun ls hl => ?_)
  refine lv_iconst (v := (0 : Int32)) hx hb dX4_usedEvents_2 (by decide) ?_
  refine lv_istore_n (lv' := [(3, .int (0 : Int32)), (2, .int (0 : Int32)), (0, .ref (bd 0)), (1, .int v1)]) hx hb dX4_usedEvents_3 rfl hl (by decide) rfl (fun ls hl => ?_)
  exact L4 fu (0 : Int32) (0 : Int32) H locs ls hP hD hS (lv_sub hl [2, 3, 1, 0] rfl) hf
abbrev rmX4_fits : Room := { frames := 0, cells := 0, slots := 0, locals := 0 }
set_option maxHeartbeats 4000000 in
set_option maxRecDepth 100000 in
theorem c_X4_fits {l : Launch} {D : va_G} {bd : Nat → Nat} {cb : Nat → ClassId} (fu : Nat) (m_thrown m_states : Int32) (m_timerEvents : Nat → Int32) (m_transitions : Int32) (m_froms m_events m_variables m_relations m_numbers m_nexts m_sizes m_actions m_fired : Nat → Int32) (m_state : Int32) (m_time : Int64) (m_values m_runs : Nat → Int32) (m_dues : Nat → Int64) (m_emitted : Int32) (m_output : Nat → Int32) (m_ignored m_isCompiled m_classes : Int32) (m_numbersOf m_offsets m_useds : Nat → Int32) (m_tableSize : Int32) (m_owners m_isReached m_areApart : Nat → Int32) (v1 v2 : Int32) {o : Int32} (hf : X4_fits fu m_owners v1 v2 = some o) : Ci l yX4_fits wsX4_fits rmX4_fits D (MT cb) (MW bd cb m_thrown m_states m_timerEvents m_transitions m_froms m_events m_variables m_relations m_numbers m_nexts m_sizes m_actions m_fired m_state m_time m_values m_runs m_dues m_emitted m_output m_ignored m_isCompiled m_classes m_numbersOf m_offsets m_useds m_tableSize m_owners m_isReached m_areApart) [.ref (bd 0), .int v1, .int v2] o (MW bd cb m_thrown m_states m_timerEvents m_transitions m_froms m_events m_variables m_relations m_numbers m_nexts m_sizes m_actions m_fired m_state m_time m_values m_runs m_dues m_emitted m_output m_ignored m_isCompiled m_classes m_numbersOf m_offsets m_useds m_tableSize m_owners m_isReached m_areApart) := by
  intro sz
  refine pw_entry (Qc := fun A => pw_Qi D (MT cb) (MW bd cb m_thrown m_states m_timerEvents m_transitions m_froms m_events m_variables m_relations m_numbers m_nexts m_sizes m_actions m_fired m_state m_time m_values m_runs m_dues m_emitted m_output m_ignored m_isCompiled m_classes m_numbersOf m_offsets m_useds m_tableSize m_owners m_isReached m_areApart) A o) (cc := cX4_fits) (maxL := 5) (ret := (some .boolean)) (by decide) rfl (Nat.le_of_ble_eq_true rfl) ?_ sz
  intro p e s m args below meth c A ls Z H locs hx hb hr hlocks hts hown hml hnm hK hP hD hS hA hl hZ
  have hown : s.vm.findClass RX4 = some m.cls := hown
  have hiX4 : ∀ w ∈ u_ws RX4 TX4 30, w ∈ wsX4_fits := by decide +kernel
  have f67 := hts (.fieldLink RX4 67 "ProtocolMachineModel" "owners" "[I") (by decide +kernel)
  have hl : lv_has ls 5 [(0, .ref (bd 0)), (1, .int v1), (2, .int v2)] := hl
  have L5 : ∀ n5 : Nat, ∀ (v3 v4 : Int32) (H : Heap) (locs : List Loc) (ls : Array Slot), va_P D vwCl (MW bd cb m_thrown m_states m_timerEvents m_transitions m_froms m_events m_variables m_relations m_numbers m_nexts m_sizes m_actions m_fired m_state m_time m_values m_runs m_dues m_emitted m_output m_ignored m_isCompiled m_classes m_numbersOf m_offsets m_useds m_tableSize m_owners m_isReached m_areApart) H → va_D A (MW bd cb m_thrown m_states m_timerEvents m_transitions m_froms m_events m_variables m_relations m_numbers m_nexts m_sizes m_actions m_fired m_state m_time m_values m_runs m_dues m_emitted m_output m_ignored m_isCompiled m_classes m_numbersOf m_offsets m_useds m_tableSize m_owners m_isReached m_areApart) → va_S A s.heap H locs → lv_has ls 5 [(0, .ref (bd 0)), (1, .int v1), (2, .int v2), (3, .int v3), (4, .int v4)] → X4_fits_L5 m_owners v1 v2 n5 v3 v4 = some o → W p l e rmX4_fits s m args below meth c H locs 0 0 Z (F0 m 5 ls []) := by
    intro n5
    induction n5 with
    | zero =>
      intro v3 v4 H locs ls hP hD hS hl hf
      exact pr_n hf
    | succ n5 ih5 =>
      intro v3 v4 H locs ls hP hD hS hl hf
      replace hf : X4_fits_B5 m_owners v1 v2 (X4_fits_L5 m_owners v1 v2  n5) v3 v4 = some o := hf
      unfold X4_fits_B5 at hf
      refine lv_iload hx hb dX4_fits_5 (lv_at hl 4 rfl) ?_
      refine lv_bipush (v := (8 : Int32)) hx hb dX4_fits_7 (by decide) ?_
      refine lv_icmp_ge (tgt := 50) hx hb dX4_fits_9 (by decide) (fun hc => ?_) (fun hc => ?_)
      · have hf := pr_t hf hc
        refine lv_iload_n hx hb dX4_fits_50 rfl (lv_at hl 3 rfl) ?_
        obtain ⟨hn, hf⟩ := pr_nz hf
        obtain rfl := Option.some.inj hf
        subst hZ
        exact pw_rz hx hb hr hlocks hn hK hP hD hS (Nat.le_of_ble_eq_true rfl) (Nat.le_of_ble_eq_true rfl) dX4_fits_51
      · have hf := pr_f hf hc
        refine lv_iload_n hx hb dX4_fits_12 rfl (lv_at hl 3 rfl) ?_
        refine lv_if_eq (tgt := 42) hx hb dX4_fits_13 (by decide) (fun hc => ?_) (fun hc => ?_)
        · have hf := pr_t hf hc
          refine lv_iconst (v := (0 : Int32)) hx hb dX4_fits_42 (by decide) ?_
          refine lv_istore_n (lv' := [(3, .int (0 : Int32)), (0, .ref (bd 0)), (1, .int v1), (2, .int v2), (4, .int v4)]) hx hb dX4_fits_43 rfl hl (by decide) rfl (fun ls hl => ?_)
          refine lv_iinc (v := (v4 + (1 : Int32))) (lv' := [(4, .int (v4 + (1 : Int32))), (3, .int (0 : Int32)), (0, .ref (bd 0)), (1, .int v1), (2, .int v2)]) hx hb dX4_fits_44 hl (k := 4) rfl rfl (by decide) rfl (fun ls hl => ?_)
          refine lv_goto (tgt := 5) hx hb dX4_fits_47 (by decide) ?_
          exact ih5 (0 : Int32) (v4 + (1 : Int32)) H locs ls hP hD hS (lv_sub hl [2, 3, 4, 1, 0] rfl) hf
        · have hf := pr_f hf hc
          refine lv_iload_n hx hb dX4_fits_16 rfl (lv_at hl 1 rfl) ?_
          refine lv_iload hx hb dX4_fits_17 (lv_at hl 4 rfl) ?_
          refine lv_ishr hx hb dX4_fits_19 ?_
          refine lv_iconst (v := (1 : Int32)) hx hb dX4_fits_20 (by decide) ?_
          refine lv_iand hx hb dX4_fits_21 ?_
          refine lv_if_eq (tgt := 38) hx hb dX4_fits_22 (by decide) (fun hc => ?_) (fun hc => ?_)
          · have hf := pr_t hf hc
            refine lv_iconst (v := (1 : Int32)) hx hb dX4_fits_38 (by decide) ?_
            refine lv_goto (tgt := 43) hx hb dX4_fits_39 (by decide) ?_
            refine lv_istore_n (lv' := [(3, .int (1 : Int32)), (0, .ref (bd 0)), (1, .int v1), (2, .int v2), (4, .int v4)]) hx hb dX4_fits_43 rfl hl (by decide) rfl (fun ls hl => ?_)
            refine lv_iinc (v := (v4 + (1 : Int32))) (lv' := [(4, .int (v4 + (1 : Int32))), (3, .int (1 : Int32)), (0, .ref (bd 0)), (1, .int v1), (2, .int v2)]) hx hb dX4_fits_44 hl (k := 4) rfl rfl (by decide) rfl (fun ls hl => ?_)
            refine lv_goto (tgt := 5) hx hb dX4_fits_47 (by decide) ?_
            exact ih5 (1 : Int32) (v4 + (1 : Int32)) H locs ls hP hD hS (lv_sub hl [2, 3, 4, 1, 0] rfl) hf
          · have hf := pr_f hf hc
            refine lv_aload_n hx hb dX4_fits_25 rfl (lv_at hl 0 rfl) ?_
            refine va_get (D := D) (ci := 4) (v := .ref (bd 18)) (C := RX4) (T := TX4) (N := 30) hx hb hts hiX4 hown hK hP 0 rfl rfl 27 (by decide) f67 (fun _ h9 => h9) rfl dX4_fits_26 ?_
            refine lv_iload_n hx hb dX4_fits_29 rfl (lv_at hl 2 rfl) ?_
            refine lv_iload hx hb dX4_fits_30 (lv_at hl 4 rfl) ?_
            refine lv_iadd hx hb dX4_fits_32 ?_
            obtain ⟨hi33, hf⟩ := pr_in hf
            refine va_iald hx hb hK hP 18 17 rfl rfl hi33 dX4_fits_33 ?_
            refine lv_iconst (v := (-1 : Int32)) hx hb dX4_fits_34 (by decide) ?_
            refine lv_icmp_ne (tgt := 42) hx hb dX4_fits_35 (by decide) (fun hc => ?_) (fun hc => ?_)
            · have hf := pr_f hf hc
              refine lv_iconst (v := (0 : Int32)) hx hb dX4_fits_42 (by decide) ?_
              refine lv_istore_n (lv' := [(3, .int (0 : Int32)), (0, .ref (bd 0)), (1, .int v1), (2, .int v2), (4, .int v4)]) hx hb dX4_fits_43 rfl hl (by decide) rfl (fun ls hl => ?_)
              refine lv_iinc (v := (v4 + (1 : Int32))) (lv' := [(4, .int (v4 + (1 : Int32))), (3, .int (0 : Int32)), (0, .ref (bd 0)), (1, .int v1), (2, .int v2)]) hx hb dX4_fits_44 hl (k := 4) rfl rfl (by decide) rfl (fun ls hl => ?_)
              refine lv_goto (tgt := 5) hx hb dX4_fits_47 (by decide) ?_
              exact ih5 (0 : Int32) (v4 + (1 : Int32)) H locs ls hP hD hS (lv_sub hl [2, 3, 4, 1, 0] rfl) hf
            · have hf := pr_t hf hc
              refine lv_iconst (v := (1 : Int32)) hx hb dX4_fits_38 (by decide) ?_
              refine lv_goto (tgt := 43) hx hb dX4_fits_39 (by decide) ?_
              refine lv_istore_n (lv' := [(3, .int (1 : Int32)), (0, .ref (bd 0)), (1, .int v1), (2, .int v2), (4, .int v4)]) hx hb dX4_fits_43 rfl hl (by decide) rfl (fun ls hl => ?_)
              refine lv_iinc (v := (v4 + (1 : Int32))) (lv' := [(4, .int (v4 + (1 : Int32))), (3, .int (1 : Int32)), (0, .ref (bd 0)), (1, .int v1), (2, .int v2)]) hx hb dX4_fits_44 hl (k := 4) rfl rfl (by decide) rfl (fun ls hl => ?_)
              refine lv_goto (tgt := 5) hx hb dX4_fits_47 (by decide) ?_
              exact ih5 (1 : Int32) (v4 + (1 : Int32)) H locs ls hP hD hS (lv_sub hl [2, 3, 4, 1, 0] rfl) hf
  unfold X4_fits at hf
  refine lv_iconst (v := (1 : Int32)) hx hb dX4_fits_0 (by decide) ?_
  refine lv_istore_n (lv' := [(3, .int (1 : Int32)), (0, .ref (bd 0)), (1, .int v1), (2, .int v2)]) hx hb dX4_fits_1 rfl hl (by decide) rfl (fun ls hl => ?_)
  refine lv_iconst (v := (0 : Int32)) hx hb dX4_fits_2 (by decide) ?_
  refine lv_istore (lv' := [(4, .int (0 : Int32)), (3, .int (1 : Int32)), (0, .ref (bd 0)), (1, .int v1), (2, .int v2)]) hx hb dX4_fits_3 hl (by decide) rfl (fun ls hl => ?_)
  exact L5 fu (1 : Int32) (0 : Int32) H locs ls hP hD hS (lv_sub hl [2, 3, 4, 1, 0] rfl) hf
abbrev rmX4_lay : Room := { frames := 1, cells := 0, slots := 0, locals := 24 }
set_option maxHeartbeats 4000000 in
set_option maxRecDepth 100000 in
theorem c_X4_lay {l : Launch} {D : va_G} {bd : Nat → Nat} {cb : Nat → ClassId} (fu : Nat) (m_thrown m_states : Int32) (m_timerEvents : Nat → Int32) (m_transitions : Int32) (m_froms m_events m_variables m_relations m_numbers m_nexts m_sizes m_actions m_fired : Nat → Int32) (m_state : Int32) (m_time : Int64) (m_values m_runs : Nat → Int32) (m_dues : Nat → Int64) (m_emitted : Int32) (m_output : Nat → Int32) (m_ignored m_isCompiled m_classes : Int32) (m_numbersOf m_offsets m_useds : Nat → Int32) (m_tableSize : Int32) (m_owners m_isReached m_areApart : Nat → Int32) (v1 v2 : Int32) {o : (Nat → Int32) × Int32 × (Nat → Int32)} (hf : X4_lay fu m_offsets m_tableSize m_owners v1 v2 = some o) : Cv l yX4_lay wsX4_lay rmX4_lay D (MT cb) (MW bd cb m_thrown m_states m_timerEvents m_transitions m_froms m_events m_variables m_relations m_numbers m_nexts m_sizes m_actions m_fired m_state m_time m_values m_runs m_dues m_emitted m_output m_ignored m_isCompiled m_classes m_numbersOf m_offsets m_useds m_tableSize m_owners m_isReached m_areApart) [.ref (bd 0), .int v1, .int v2] (MW bd cb m_thrown m_states m_timerEvents m_transitions m_froms m_events m_variables m_relations m_numbers m_nexts m_sizes m_actions m_fired m_state m_time m_values m_runs m_dues m_emitted m_output m_ignored m_isCompiled m_classes m_numbersOf o.1 m_useds o.2.1 o.2.2 m_isReached m_areApart) := by
  intro sz
  refine pw_entry (Qc := fun A => pw_Qv D (MT cb) (MW bd cb m_thrown m_states m_timerEvents m_transitions m_froms m_events m_variables m_relations m_numbers m_nexts m_sizes m_actions m_fired m_state m_time m_values m_runs m_dues m_emitted m_output m_ignored m_isCompiled m_classes m_numbersOf o.1 m_useds o.2.1 o.2.2 m_isReached m_areApart) A) (cc := cX4_lay) (maxL := 5) (ret := none) (by decide) rfl (Nat.le_of_ble_eq_true rfl) ?_ sz
  intro p e s m args below meth c A ls Z H locs hx hb hr hlocks hts hown hml hnm hK hP hD hS hA hl hZ
  have hown : s.vm.findClass RX4 = some m.cls := hown
  have hiX4 : ∀ w ∈ u_ws RX4 TX4 30, w ∈ wsX4_lay := by decide +kernel
  have f163 := hts (.fieldLink RX4 163 "ProtocolMachineModel" "tableSize" "I") (by decide +kernel)
  have f61 := hts (.fieldLink RX4 61 "ProtocolMachineModel" "offsets" "[I") (by decide +kernel)
  have f67 := hts (.fieldLink RX4 67 "ProtocolMachineModel" "owners" "[I") (by decide +kernel)
  have mc_max := hts (.code Lib.Math.max.name Lib.Math.max.code 2 (some .int)) (by decide +kernel)
  have mi := hts (.initialized "java/lang/Math") (by decide +kernel)
  have ml133 := hts (.methodLink RX4 133 Lib.Math.max.name) (by decide +kernel)
  have ms_max := hts (.static Lib.Math.max.name) (by decide +kernel)
  have hl : lv_has ls 5 [(0, .ref (bd 0)), (1, .int v1), (2, .int v2)] := hl
  have L27 : ∀ n27 : Nat, ∀ (m_offsets : Nat → Int32) (m_tableSize : Int32) (m_owners : Nat → Int32) (v3 v4 : Int32) (H : Heap) (locs : List Loc) (ls : Array Slot), va_P D vwCl (MW bd cb m_thrown m_states m_timerEvents m_transitions m_froms m_events m_variables m_relations m_numbers m_nexts m_sizes m_actions m_fired m_state m_time m_values m_runs m_dues m_emitted m_output m_ignored m_isCompiled m_classes m_numbersOf m_offsets m_useds m_tableSize m_owners m_isReached m_areApart) H → va_D A (MW bd cb m_thrown m_states m_timerEvents m_transitions m_froms m_events m_variables m_relations m_numbers m_nexts m_sizes m_actions m_fired m_state m_time m_values m_runs m_dues m_emitted m_output m_ignored m_isCompiled m_classes m_numbersOf m_offsets m_useds m_tableSize m_owners m_isReached m_areApart) → va_S A s.heap H locs → lv_has ls 5 [(0, .ref (bd 0)), (1, .int v1), (2, .int v2), (3, .int v3), (4, .int v4)] → X4_lay_L27 v1 v2 n27 m_offsets m_tableSize m_owners v3 v4 = some o → W p l e rmX4_lay s m args below meth c H locs 0 0 Z (F0 m 27 ls []) := by
    intro n27
    induction n27 with
    | zero =>
      intro m_offsets m_tableSize m_owners v3 v4 H locs ls hP hD hS hl hf
      exact pr_n hf
    | succ n27 ih27 =>
      intro m_offsets m_tableSize m_owners v3 v4 H locs ls hP hD hS hl hf
      replace hf : X4_lay_B27 v1 v2 (X4_lay_L27 v1 v2  n27) m_offsets m_tableSize m_owners v3 v4 = some o := hf
      unfold X4_lay_B27 at hf
      refine lv_iload hx hb dX4_lay_27 (lv_at hl 4 rfl) ?_
      refine lv_bipush (v := (8 : Int32)) hx hb dX4_lay_29 (by decide) ?_
      refine lv_icmp_ge (tgt := 79) hx hb dX4_lay_31 (by decide) (fun hc => ?_) (fun hc => ?_)
      · have hf := pr_t hf hc
        obtain rfl := Option.some.inj hf
        subst hZ
        exact pw_rv hx hb hr hlocks hK hP hD hS (Nat.le_of_ble_eq_true rfl) (Nat.le_of_ble_eq_true rfl) dX4_lay_79
      · have hf := pr_f hf hc
        refine lv_iload_n hx hb dX4_lay_34 rfl (lv_at hl 2 rfl) ?_
        refine lv_iload hx hb dX4_lay_35 (lv_at hl 4 rfl) ?_
        refine lv_ishr hx hb dX4_lay_37 ?_
        refine lv_iconst (v := (1 : Int32)) hx hb dX4_lay_38 (by decide) ?_
        refine lv_iand hx hb dX4_lay_39 ?_
        refine lv_if_ne (tgt := 46) hx hb dX4_lay_40 (by decide) (fun hc => ?_) (fun hc => ?_)
        · have hf := pr_f hf hc
          refine lv_aload_n hx hb dX4_lay_46 rfl (lv_at hl 0 rfl) ?_
          refine va_get (D := D) (ci := 4) (v := .ref (bd 18)) (C := RX4) (T := TX4) (N := 30) hx hb hts hiX4 hown hK hP 0 rfl rfl 27 (by decide) f67 (fun _ h9 => h9) rfl dX4_lay_47 ?_
          refine lv_iload_n hx hb dX4_lay_50 rfl (lv_at hl 3 rfl) ?_
          refine lv_iload hx hb dX4_lay_51 (lv_at hl 4 rfl) ?_
          refine lv_iadd hx hb dX4_lay_53 ?_
          refine lv_iload_n hx hb dX4_lay_54 rfl (lv_at hl 1 rfl) ?_
          obtain ⟨hi55, hf⟩ := pr_in hf
          refine va_iast hx hb hK hP hD hS 18 17 rfl rfl hi55 dX4_lay_55 (fun H locs hP hD hS => ?_)
          have hP : va_P D vwCl (MW bd cb m_thrown m_states m_timerEvents m_transitions m_froms m_events m_variables m_relations m_numbers m_nexts m_sizes m_actions m_fired m_state m_time m_values m_runs m_dues m_emitted m_output m_ignored m_isCompiled m_classes m_numbersOf m_offsets m_useds m_tableSize (upd m_owners (v3 + v4).toNatClampNeg v1) m_isReached m_areApart) H := hP
          have hD : va_D A (MW bd cb m_thrown m_states m_timerEvents m_transitions m_froms m_events m_variables m_relations m_numbers m_nexts m_sizes m_actions m_fired m_state m_time m_values m_runs m_dues m_emitted m_output m_ignored m_isCompiled m_classes m_numbersOf m_offsets m_useds m_tableSize (upd m_owners (v3 + v4).toNatClampNeg v1) m_isReached m_areApart) := hD
          refine lv_aload_n hx hb dX4_lay_56 rfl (lv_at hl 0 rfl) ?_
          refine lv_aload_n hx hb dX4_lay_57 rfl (lv_at hl 0 rfl) ?_
          refine va_get (D := D) (ci := 4) (v := .int m_tableSize) (C := RX4) (T := TX4) (N := 30) hx hb hts hiX4 hown hK hP 0 rfl rfl 26 (by decide) f163 (fun _ h9 => h9) rfl dX4_lay_58 ?_
          refine lv_iload_n hx hb dX4_lay_61 rfl (lv_at hl 3 rfl) ?_
          refine lv_iload hx hb dX4_lay_62 (lv_at hl 4 rfl) ?_
          refine lv_iadd hx hb dX4_lay_64 ?_
          refine lv_iconst (v := (1 : Int32)) hx hb dX4_lay_65 (by decide) ?_
          refine lv_iadd hx hb dX4_lay_66 ?_
          refine va_mmax hx hb (hml.trans hl.1.symm) hown ml133 ms_max mi mc_max (Nat.le_of_ble_eq_true rfl) (Nat.le_of_ble_eq_true rfl) (Nat.le_of_ble_eq_true rfl) (Nat.le_of_ble_eq_true rfl) dX4_lay_67 ?_
          refine va_put (D := D) (ci := 4) (v := .int (if m_tableSize < ((v3 + v4) + (1 : Int32)) then ((v3 + v4) + (1 : Int32)) else m_tableSize)) (ty := .int) (C := RX4) (T := TX4) (N := 30) hx hb hts hiX4 tyX4 tyX4_ok nmX4 hown hK hP hD hS 0 rfl rfl 26 (by decide) f163 (fun _ h9 => h9) rfl (by decide +kernel) rfl rfl (Nat.le_of_ble_eq_true rfl) dX4_lay_70 (fun H locs hP hD hS => ?_)
          have hP : va_P D vwCl (MW bd cb m_thrown m_states m_timerEvents m_transitions m_froms m_events m_variables m_relations m_numbers m_nexts m_sizes m_actions m_fired m_state m_time m_values m_runs m_dues m_emitted m_output m_ignored m_isCompiled m_classes m_numbersOf m_offsets m_useds (if m_tableSize < ((v3 + v4) + (1 : Int32)) then ((v3 + v4) + (1 : Int32)) else m_tableSize) (upd m_owners (v3 + v4).toNatClampNeg v1) m_isReached m_areApart) H := hP
          have hD : va_D A (MW bd cb m_thrown m_states m_timerEvents m_transitions m_froms m_events m_variables m_relations m_numbers m_nexts m_sizes m_actions m_fired m_state m_time m_values m_runs m_dues m_emitted m_output m_ignored m_isCompiled m_classes m_numbersOf m_offsets m_useds (if m_tableSize < ((v3 + v4) + (1 : Int32)) then ((v3 + v4) + (1 : Int32)) else m_tableSize) (upd m_owners (v3 + v4).toNatClampNeg v1) m_isReached m_areApart) := hD
          refine lv_iinc (v := (v4 + (1 : Int32))) (lv' := [(4, .int (v4 + (1 : Int32))), (0, .ref (bd 0)), (1, .int v1), (2, .int v2), (3, .int v3)]) hx hb dX4_lay_73 hl (k := 4) rfl rfl (by decide) rfl (fun ls hl => ?_)
          refine lv_goto (tgt := 27) hx hb dX4_lay_76 (by decide) ?_
          exact ih27 m_offsets (if m_tableSize < ((v3 + v4) + (1 : Int32)) then ((v3 + v4) + (1 : Int32)) else m_tableSize) (upd m_owners (v3 + v4).toNatClampNeg v1) v3 (v4 + (1 : Int32)) H locs ls hP hD hS (lv_sub hl [1, 2, 3, 4, 0] rfl) hf
        · have hf := pr_t hf hc
          refine lv_goto (tgt := 73) hx hb dX4_lay_43 (by decide) ?_
          refine lv_iinc (v := (v4 + (1 : Int32))) (lv' := [(4, .int (v4 + (1 : Int32))), (0, .ref (bd 0)), (1, .int v1), (2, .int v2), (3, .int v3)]) hx hb dX4_lay_73 hl (k := 4) rfl rfl (by decide) rfl (fun ls hl => ?_)
          refine lv_goto (tgt := 27) hx hb dX4_lay_76 (by decide) ?_
          exact ih27 m_offsets m_tableSize m_owners v3 (v4 + (1 : Int32)) H locs ls hP hD hS (lv_sub hl [1, 2, 3, 4, 0] rfl) hf
  have B17 : ∀ (v3 : Int32) (H : Heap) (locs : List Loc) (ls : Array Slot), va_P D vwCl (MW bd cb m_thrown m_states m_timerEvents m_transitions m_froms m_events m_variables m_relations m_numbers m_nexts m_sizes m_actions m_fired m_state m_time m_values m_runs m_dues m_emitted m_output m_ignored m_isCompiled m_classes m_numbersOf m_offsets m_useds m_tableSize m_owners m_isReached m_areApart) H → va_D A (MW bd cb m_thrown m_states m_timerEvents m_transitions m_froms m_events m_variables m_relations m_numbers m_nexts m_sizes m_actions m_fired m_state m_time m_values m_runs m_dues m_emitted m_output m_ignored m_isCompiled m_classes m_numbersOf m_offsets m_useds m_tableSize m_owners m_isReached m_areApart) → va_S A s.heap H locs → lv_has ls 5 [(0, .ref (bd 0)), (1, .int v1), (2, .int v2), (3, .int v3)] → X4_lay_B17 fu m_offsets m_tableSize m_owners v1 v2 v3 = some o → W p l e rmX4_lay s m args below meth c H locs 0 0 Z (F0 m 17 ls []) := by
    intro v3 H locs ls hP hD hS hl hf
    unfold X4_lay_B17 at hf
    refine lv_aload_n hx hb dX4_lay_17 rfl (lv_at hl 0 rfl) ?_
    refine va_get (D := D) (ci := 4) (v := .ref (bd 16)) (C := RX4) (T := TX4) (N := 30) hx hb hts hiX4 hown hK hP 0 rfl rfl 24 (by decide) f61 (fun _ h9 => h9) rfl dX4_lay_18 ?_
    refine lv_iload_n hx hb dX4_lay_21 rfl (lv_at hl 1 rfl) ?_
    refine lv_iload_n hx hb dX4_lay_22 rfl (lv_at hl 3 rfl) ?_
    obtain ⟨hi23, hf⟩ := pr_in hf
    refine va_iast hx hb hK hP hD hS 16 15 rfl rfl hi23 dX4_lay_23 (fun H locs hP hD hS => ?_)
    have hP : va_P D vwCl (MW bd cb m_thrown m_states m_timerEvents m_transitions m_froms m_events m_variables m_relations m_numbers m_nexts m_sizes m_actions m_fired m_state m_time m_values m_runs m_dues m_emitted m_output m_ignored m_isCompiled m_classes m_numbersOf (upd m_offsets v1.toNatClampNeg v3) m_useds m_tableSize m_owners m_isReached m_areApart) H := hP
    have hD : va_D A (MW bd cb m_thrown m_states m_timerEvents m_transitions m_froms m_events m_variables m_relations m_numbers m_nexts m_sizes m_actions m_fired m_state m_time m_values m_runs m_dues m_emitted m_output m_ignored m_isCompiled m_classes m_numbersOf (upd m_offsets v1.toNatClampNeg v3) m_useds m_tableSize m_owners m_isReached m_areApart) := hD
    refine lv_iconst (v := (0 : Int32)) hx hb dX4_lay_24 (by decide) ?_
    refine lv_istore (lv' := [(4, .int (0 : Int32)), (0, .ref (bd 0)), (1, .int v1), (2, .int v2), (3, .int v3)]) hx hb dX4_lay_25 hl (by decide) rfl (fun ls hl => ?_)
    exact L27 fu (upd m_offsets v1.toNatClampNeg v3) m_tableSize m_owners v3 (0 : Int32) H locs ls hP hD hS (lv_sub hl [1, 2, 3, 4, 0] rfl) hf
  have L2 : ∀ n2 : Nat, ∀ (v3 : Int32) (H : Heap) (locs : List Loc) (ls : Array Slot), va_P D vwCl (MW bd cb m_thrown m_states m_timerEvents m_transitions m_froms m_events m_variables m_relations m_numbers m_nexts m_sizes m_actions m_fired m_state m_time m_values m_runs m_dues m_emitted m_output m_ignored m_isCompiled m_classes m_numbersOf m_offsets m_useds m_tableSize m_owners m_isReached m_areApart) H → va_D A (MW bd cb m_thrown m_states m_timerEvents m_transitions m_froms m_events m_variables m_relations m_numbers m_nexts m_sizes m_actions m_fired m_state m_time m_values m_runs m_dues m_emitted m_output m_ignored m_isCompiled m_classes m_numbersOf m_offsets m_useds m_tableSize m_owners m_isReached m_areApart) → va_S A s.heap H locs → lv_has ls 5 [(0, .ref (bd 0)), (1, .int v1), (2, .int v2), (3, .int v3)] → X4_lay_L2 fu m_offsets m_tableSize m_owners v1 v2 n2 v3 = some o → W p l e rmX4_lay s m args below meth c H locs 0 0 Z (F0 m 2 ls []) := by
    intro n2
    induction n2 with
    | zero =>
      intro v3 H locs ls hP hD hS hl hf
      exact pr_n hf
    | succ n2 ih2 =>
      intro v3 H locs ls hP hD hS hl hf
      replace hf : X4_lay_B2 fu m_offsets m_tableSize m_owners v1 v2 (X4_lay_L2 fu m_offsets m_tableSize m_owners v1 v2  n2) v3 = some o := hf
      unfold X4_lay_B2 at hf
      refine lv_aload_n hx hb dX4_lay_2 rfl (lv_at hl 0 rfl) ?_
      refine lv_iload_n hx hb dX4_lay_3 rfl (lv_at hl 2 rfl) ?_
      refine lv_iload_n hx hb dX4_lay_4 rfl (lv_at hl 3 rfl) ?_
      obtain ⟨x5, hg5, hf⟩ := pr_b hf
      refine pw_cViW (b := bd 0) (As := [.int v2, .int v3]) (rest := []) ⟨hx, hb, hml, hown, hts⟩ (c_X4_fits fu (D := D) m_thrown m_states m_timerEvents m_transitions m_froms m_events m_variables m_relations m_numbers m_nexts m_sizes m_actions m_fired m_state m_time m_values m_runs m_dues m_emitted m_output m_ignored m_isCompiled m_classes m_numbersOf m_offsets m_useds m_tableSize m_owners m_isReached m_areApart v2 v3 hg5) (cwV 2 hts gX4_lay_X4_fits rfl rfl rfl (by decide +kernel) ⟨Nat.le_of_ble_eq_true rfl, Nat.le_of_ble_eq_true rfl⟩) 0 4 rfl rfl hK hP hD hS hA rfl hl.1 rfl (Nat.le_of_ble_eq_true rfl) dX4_lay_5 ⟨Nat.le_of_ble_eq_true rfl, Nat.le_of_ble_eq_true rfl⟩ (fun H locs hP hD hS => ?_)
      refine lv_if_ne (tgt := 17) hx hb dX4_lay_8 (by decide) (fun hc => ?_) (fun hc => ?_)
      · have hf := pr_f hf hc
        exact B17 v3 H locs ls hP hD hS (lv_sub hl [0, 1, 2, 3] rfl) hf
      · have hf := pr_t hf hc
        refine lv_iinc (v := (v3 + (1 : Int32))) (lv' := [(3, .int (v3 + (1 : Int32))), (0, .ref (bd 0)), (1, .int v1), (2, .int v2)]) hx hb dX4_lay_11 hl (k := 3) rfl rfl (by decide) rfl (fun ls hl => ?_)
        refine lv_goto (tgt := 2) hx hb dX4_lay_14 (by decide) ?_
        exact ih2 (v3 + (1 : Int32)) H locs ls hP hD hS (lv_sub hl [1, 2, 3, 0] rfl) hf
  unfold X4_lay at hf
  refine lv_iconst (v := (0 : Int32)) hx hb dX4_lay_0 (by decide) ?_
  refine lv_istore_n (lv' := [(3, .int (0 : Int32)), (0, .ref (bd 0)), (1, .int v1), (2, .int v2)]) hx hb dX4_lay_1 rfl hl (by decide) rfl (fun ls hl => ?_)
  exact L2 fu (0 : Int32) H locs ls hP hD hS (lv_sub hl [1, 2, 3, 0] rfl) hf
abbrev rmX4_make : Room := { frames := 3, cells := 1, slots := 12, locals := 74 }
set_option maxHeartbeats 4000000 in
set_option maxRecDepth 100000 in
theorem c_X4_make {l : Launch} {D : va_G} {bd : Nat → Nat} {cb : Nat → ClassId} (fu : Nat) (m_thrown m_states : Int32) (m_timerEvents : Nat → Int32) (m_transitions : Int32) (m_froms m_events m_variables m_relations m_numbers m_nexts m_sizes m_actions m_fired : Nat → Int32) (m_state : Int32) (m_time : Int64) (m_values m_runs : Nat → Int32) (m_dues : Nat → Int64) (m_emitted : Int32) (m_output : Nat → Int32) (m_ignored m_isCompiled m_classes : Int32) (m_numbersOf m_offsets m_useds : Nat → Int32) (m_tableSize : Int32) (m_owners m_isReached m_areApart : Nat → Int32) {o : Int32 × Int32 × (Nat → Int32) × (Nat → Int32) × (Nat → Int32) × Int32 × (Nat → Int32) × (Nat → Int32) × (Nat → Int32)} (hf : X4_make fu m_states m_transitions m_froms m_events m_variables m_relations m_numbers m_nexts m_sizes m_actions m_isCompiled m_classes m_numbersOf m_offsets m_useds m_tableSize m_owners m_isReached m_areApart = some o) : Cv l yX4_make wsX4_make rmX4_make D (MT cb) (MW bd cb m_thrown m_states m_timerEvents m_transitions m_froms m_events m_variables m_relations m_numbers m_nexts m_sizes m_actions m_fired m_state m_time m_values m_runs m_dues m_emitted m_output m_ignored m_isCompiled m_classes m_numbersOf m_offsets m_useds m_tableSize m_owners m_isReached m_areApart) [.ref (bd 0)] (MW bd cb m_thrown m_states m_timerEvents m_transitions m_froms m_events m_variables m_relations m_numbers m_nexts m_sizes m_actions m_fired m_state m_time m_values m_runs m_dues m_emitted m_output m_ignored o.1 o.2.1 o.2.2.1 o.2.2.2.1 o.2.2.2.2.1 o.2.2.2.2.2.1 o.2.2.2.2.2.2.1 o.2.2.2.2.2.2.2.1 o.2.2.2.2.2.2.2.2) := by
  intro sz
  refine pw_entry (Qc := fun A => pw_Qv D (MT cb) (MW bd cb m_thrown m_states m_timerEvents m_transitions m_froms m_events m_variables m_relations m_numbers m_nexts m_sizes m_actions m_fired m_state m_time m_values m_runs m_dues m_emitted m_output m_ignored o.1 o.2.1 o.2.2.1 o.2.2.2.1 o.2.2.2.2.1 o.2.2.2.2.2.1 o.2.2.2.2.2.2.1 o.2.2.2.2.2.2.2.1 o.2.2.2.2.2.2.2.2) A) (cc := cX4_make) (maxL := 4) (ret := none) (by decide) rfl (Nat.le_of_ble_eq_true rfl) ?_ sz
  intro p e s m args below meth c A ls Z H locs hx hb hr hlocks hts hown hml hnm hK hP hD hS hA hl hZ
  have hown : s.vm.findClass RX4 = some m.cls := hown
  have hiX4 : ∀ w ∈ u_ws RX4 TX4 30, w ∈ wsX4_make := by decide +kernel
  have ar := hts (.arrayClass .int) (by decide +kernel)
  have f163 := hts (.fieldLink RX4 163 "ProtocolMachineModel" "tableSize" "I") (by decide +kernel)
  have f172 := hts (.fieldLink RX4 172 "ProtocolMachineModel" "classes" "I") (by decide +kernel)
  have f58 := hts (.fieldLink RX4 58 "ProtocolMachineModel" "numbersOf" "[I") (by decide +kernel)
  have f64 := hts (.fieldLink RX4 64 "ProtocolMachineModel" "useds" "[I") (by decide +kernel)
  have f67 := hts (.fieldLink RX4 67 "ProtocolMachineModel" "owners" "[I") (by decide +kernel)
  have f7 := hts (.fieldLink RX4 7 "ProtocolMachineModel" "states" "I") (by decide +kernel)
  have f70 := hts (.fieldLink RX4 70 "ProtocolMachineModel" "isReached" "[Z") (by decide +kernel)
  have f73 := hts (.fieldLink RX4 73 "ProtocolMachineModel" "areApart" "[Z") (by decide +kernel)
  have f90 := hts (.fieldLink RX4 90 "ProtocolMachineModel" "isCompiled" "Z") (by decide +kernel)
  have hl : lv_has ls 4 [(0, .ref (bd 0))] := hl
  have L202 : ∀ n202 : Nat, ∀ (xq15 : Nat) (xc15 : ClassId), va_K D vwCl (MT cb ++ ([(xc15, .int)])) s → ∀ (m_classes : Int32) (m_numbersOf m_offsets m_useds : Nat → Int32) (m_tableSize : Int32) (m_owners m_isReached m_areApart x_15 : Nat → Int32) (v2 : Int32) (H : Heap) (locs : List Loc) (ls : Array Slot), va_P D vwCl (MW bd cb m_thrown m_states m_timerEvents m_transitions m_froms m_events m_variables m_relations m_numbers m_nexts m_sizes m_actions m_fired m_state m_time m_values m_runs m_dues m_emitted m_output m_ignored m_isCompiled m_classes m_numbersOf m_offsets m_useds m_tableSize m_owners m_isReached m_areApart ++ ([(xq15, .inl (xc15, 12, .inl x_15))])) H → va_D A (MW bd cb m_thrown m_states m_timerEvents m_transitions m_froms m_events m_variables m_relations m_numbers m_nexts m_sizes m_actions m_fired m_state m_time m_values m_runs m_dues m_emitted m_output m_ignored m_isCompiled m_classes m_numbersOf m_offsets m_useds m_tableSize m_owners m_isReached m_areApart ++ ([(xq15, .inl (xc15, 12, .inl x_15))])) → va_S A s.heap H locs → lv_has ls 4 [(0, .ref (bd 0)), (1, .ref xq15), (2, .int v2)] → X4_make_L202 fu n202 m_classes m_numbersOf m_offsets m_useds m_tableSize m_owners m_isReached m_areApart x_15 v2 = some o → W p l e rmX4_make s m args below meth c H locs 1 12 Z (F0 m 202 ls []) := by
    intro n202
    induction n202 with
    | zero =>
      intro xq15 xc15 hK m_classes m_numbersOf m_offsets m_useds m_tableSize m_owners m_isReached m_areApart x_15 v2 H locs ls hP hD hS hl hf
      exact pr_n hf
    | succ n202 ih202 =>
      have L208 : ∀ n208 : Nat, ∀ (xq15 : Nat) (xc15 : ClassId), va_K D vwCl (MT cb ++ ([(xc15, .int)])) s → ∀ (m_classes : Int32) (m_numbersOf m_offsets m_useds : Nat → Int32) (m_tableSize : Int32) (m_owners m_isReached m_areApart x_15 : Nat → Int32) (v2 v3 : Int32) (H : Heap) (locs : List Loc) (ls : Array Slot), va_P D vwCl (MW bd cb m_thrown m_states m_timerEvents m_transitions m_froms m_events m_variables m_relations m_numbers m_nexts m_sizes m_actions m_fired m_state m_time m_values m_runs m_dues m_emitted m_output m_ignored m_isCompiled m_classes m_numbersOf m_offsets m_useds m_tableSize m_owners m_isReached m_areApart ++ ([(xq15, .inl (xc15, 12, .inl x_15))])) H → va_D A (MW bd cb m_thrown m_states m_timerEvents m_transitions m_froms m_events m_variables m_relations m_numbers m_nexts m_sizes m_actions m_fired m_state m_time m_values m_runs m_dues m_emitted m_output m_ignored m_isCompiled m_classes m_numbersOf m_offsets m_useds m_tableSize m_owners m_isReached m_areApart ++ ([(xq15, .inl (xc15, 12, .inl x_15))])) → va_S A s.heap H locs → lv_has ls 4 [(0, .ref (bd 0)), (1, .ref xq15), (2, .int v2), (3, .int v3)] → X4_make_L208 fu (X4_make_L202 fu n202) n208 m_classes m_numbersOf m_offsets m_useds m_tableSize m_owners m_isReached m_areApart x_15 v2 v3 = some o → W p l e rmX4_make s m args below meth c H locs 1 12 Z (F0 m 208 ls []) := by
        intro n208
        induction n208 with
        | zero =>
          intro xq15 xc15 hK m_classes m_numbersOf m_offsets m_useds m_tableSize m_owners m_isReached m_areApart x_15 v2 v3 H locs ls hP hD hS hl hf
          exact pr_n hf
        | succ n208 ih208 =>
          intro xq15 xc15 hK m_classes m_numbersOf m_offsets m_useds m_tableSize m_owners m_isReached m_areApart x_15 v2 v3 H locs ls hP hD hS hl hf
          replace hf : X4_make_B208 fu (X4_make_L202 fu  n202) (X4_make_L208 fu (X4_make_L202 fu  n202) n208) m_classes m_numbersOf m_offsets m_useds m_tableSize m_owners m_isReached m_areApart x_15 v2 v3 = some o := hf
          unfold X4_make_B208 at hf
          refine lv_iload_n hx hb dX4_make_208 rfl (lv_at hl 3 rfl) ?_
          refine lv_aload_n hx hb dX4_make_209 rfl (lv_at hl 0 rfl) ?_
          refine va_get (D := D) (ci := 4) (v := .int m_classes) (C := RX4) (T := TX4) (N := 30) hx hb hts hiX4 hown hK hP 0 rfl rfl 22 (by decide) f172 (fun _ h9 => h9) rfl dX4_make_210 ?_
          refine lv_icmp_ge (tgt := 240) hx hb dX4_make_213 (by decide) (fun hc => ?_) (fun hc => ?_)
          · have hf := pr_t hf hc
            refine lv_iinc (v := (v2 + (-1 : Int32))) (lv' := [(2, .int (v2 + (-1 : Int32))), (0, .ref (bd 0)), (1, .ref xq15), (3, .int v3)]) hx hb dX4_make_240 hl (k := 2) rfl rfl (by decide) rfl (fun ls hl => ?_)
            refine lv_goto (tgt := 202) hx hb dX4_make_243 (by decide) ?_
            exact ih202 xq15 xc15 hK m_classes m_numbersOf m_offsets m_useds m_tableSize m_owners m_isReached m_areApart x_15 (v2 + (-1 : Int32)) H locs ls hP hD hS (lv_sub hl [1, 2, 0] rfl) hf
          · have hf := pr_f hf hc
            refine lv_aload_n hx hb dX4_make_216 rfl (lv_at hl 0 rfl) ?_
            refine va_get (D := D) (ci := 4) (v := .ref (bd 17)) (C := RX4) (T := TX4) (N := 30) hx hb hts hiX4 hown hK hP 0 rfl rfl 25 (by decide) f64 (fun _ h9 => h9) rfl dX4_make_217 ?_
            refine lv_iload_n hx hb dX4_make_220 rfl (lv_at hl 3 rfl) ?_
            obtain ⟨hi221, hf⟩ := pr_in hf
            refine va_iald hx hb hK hP 17 16 rfl rfl hi221 dX4_make_221 ?_
            refine lv_iload_n hx hb dX4_make_222 rfl (lv_at hl 2 rfl) ?_
            refine lv_icmp_ne (tgt := 234) hx hb dX4_make_223 (by decide) (fun hc => ?_) (fun hc => ?_)
            · have hf := pr_f hf hc
              refine lv_iinc (v := (v3 + (1 : Int32))) (lv' := [(3, .int (v3 + (1 : Int32))), (0, .ref (bd 0)), (1, .ref xq15), (2, .int v2)]) hx hb dX4_make_234 hl (k := 3) rfl rfl (by decide) rfl (fun ls hl => ?_)
              refine lv_goto (tgt := 208) hx hb dX4_make_237 (by decide) ?_
              exact ih208 xq15 xc15 hK m_classes m_numbersOf m_offsets m_useds m_tableSize m_owners m_isReached m_areApart x_15 v2 (v3 + (1 : Int32)) H locs ls hP hD hS (lv_sub hl [1, 2, 3, 0] rfl) hf
            · have hf := pr_t hf hc
              refine lv_aload_n hx hb dX4_make_226 rfl (lv_at hl 0 rfl) ?_
              refine lv_iload_n hx hb dX4_make_227 rfl (lv_at hl 3 rfl) ?_
              refine lv_aload_n hx hb dX4_make_228 rfl (lv_at hl 1 rfl) ?_
              refine lv_iload_n hx hb dX4_make_229 rfl (lv_at hl 3 rfl) ?_
              refine va_iald hx hb hK hP 21 20 rfl rfl hi221 dX4_make_230 ?_
              obtain ⟨x231, hg231, hf⟩ := pr_b hf
              have hKc := hK.sub (tys' := (MT cb)) [0, 1, 2, 3, 4, 5, 6, 7, 8, 9, 10, 11, 12, 13, 14, 15, 16, 17, 18, 19] rfl
              refine pw_cVvP (b := bd 0) (As := [.int v3, .int (x_15 v3.toNatClampNeg)]) (rest := []) ⟨hx, hb, hml, hown, hts⟩ (c_X4_lay fu (D := D) m_thrown m_states m_timerEvents m_transitions m_froms m_events m_variables m_relations m_numbers m_nexts m_sizes m_actions m_fired m_state m_time m_values m_runs m_dues m_emitted m_output m_ignored m_isCompiled m_classes m_numbersOf m_offsets m_useds m_tableSize m_owners m_isReached m_areApart v3 (x_15 v3.toNatClampNeg) hg231) (cwV 2 hts gX4_make_X4_lay rfl rfl rfl (by decide +kernel) ⟨Nat.le_of_ble_eq_true rfl, Nat.le_of_ble_eq_true rfl⟩) 0 4 rfl rfl hKc hP hD hS hA [0, 1, 2, 3, 4, 5, 6, 7, 8, 9, 10, 11, 12, 13, 14, 15, 16, 17, 18, 19, 20] [21] rfl rfl (by decide) (by decide) (by decide) rfl hl.1 rfl (Nat.le_of_ble_eq_true rfl) dX4_make_231 ⟨Nat.le_of_ble_eq_true rfl, Nat.le_of_ble_eq_true rfl⟩ (fun H locs hP hD hS => ?_)
              have hP := hP.sub (ws' := (MW bd cb m_thrown m_states m_timerEvents m_transitions m_froms m_events m_variables m_relations m_numbers m_nexts m_sizes m_actions m_fired m_state m_time m_values m_runs m_dues m_emitted m_output m_ignored m_isCompiled m_classes m_numbersOf x231.1 m_useds x231.2.1 x231.2.2 m_isReached m_areApart ++ ([(xq15, .inl (xc15, 12, .inl x_15))]))) [1, 2, 3, 4, 5, 6, 7, 8, 9, 10, 11, 12, 13, 14, 15, 16, 17, 18, 19, 20, 21, 0] rfl
              have hD := hD.sub (ws' := (MW bd cb m_thrown m_states m_timerEvents m_transitions m_froms m_events m_variables m_relations m_numbers m_nexts m_sizes m_actions m_fired m_state m_time m_values m_runs m_dues m_emitted m_output m_ignored m_isCompiled m_classes m_numbersOf x231.1 m_useds x231.2.1 x231.2.2 m_isReached m_areApart ++ ([(xq15, .inl (xc15, 12, .inl x_15))]))) [1, 2, 3, 4, 5, 6, 7, 8, 9, 10, 11, 12, 13, 14, 15, 16, 17, 18, 19, 20, 21, 0] (by decide) rfl
              refine lv_iinc (v := (v3 + (1 : Int32))) (lv' := [(3, .int (v3 + (1 : Int32))), (0, .ref (bd 0)), (1, .ref xq15), (2, .int v2)]) hx hb dX4_make_234 hl (k := 3) rfl rfl (by decide) rfl (fun ls hl => ?_)
              refine lv_goto (tgt := 208) hx hb dX4_make_237 (by decide) ?_
              exact ih208 xq15 xc15 hK m_classes m_numbersOf x231.1 m_useds x231.2.1 x231.2.2 m_isReached m_areApart x_15 v2 (v3 + (1 : Int32)) H locs ls hP hD hS (lv_sub hl [1, 2, 3, 0] rfl) hf
      intro xq15 xc15 hK m_classes m_numbersOf m_offsets m_useds m_tableSize m_owners m_isReached m_areApart x_15 v2 H locs ls hP hD hS hl hf
      replace hf : X4_make_B202 fu (X4_make_L202 fu  n202) m_classes m_numbersOf m_offsets m_useds m_tableSize m_owners m_isReached m_areApart x_15 v2 = some o := hf
      unfold X4_make_B202 at hf
      refine lv_iload_n hx hb dX4_make_202 rfl (lv_at hl 2 rfl) ?_
      refine lv_if_lt (tgt := 246) hx hb dX4_make_203 (by decide) (fun hc => ?_) (fun hc => ?_)
      · have hf := pr_t hf hc
        refine lv_aload_n hx hb dX4_make_246 rfl (lv_at hl 0 rfl) ?_
        refine lv_iconst (v := (1 : Int32)) hx hb dX4_make_247 (by decide) ?_
        refine va_put (D := D) (ci := 4) (v := .int (1 : Int32)) (ty := .boolean) (C := RX4) (T := TX4) (N := 30) hx hb hts hiX4 tyX4 tyX4_ok nmX4 hown hK hP hD hS 0 rfl rfl 21 (by decide) f90 (fun _ h9 => h9) rfl (by decide +kernel) rfl rfl (Nat.le_of_ble_eq_true rfl) dX4_make_248 (fun H locs hP hD hS => ?_)
        have hP : va_P D vwCl (MW bd cb m_thrown m_states m_timerEvents m_transitions m_froms m_events m_variables m_relations m_numbers m_nexts m_sizes m_actions m_fired m_state m_time m_values m_runs m_dues m_emitted m_output m_ignored (1 : Int32) m_classes m_numbersOf m_offsets m_useds m_tableSize m_owners m_isReached m_areApart ++ ([(xq15, .inl (xc15, 12, .inl x_15))])) H := hP
        have hD : va_D A (MW bd cb m_thrown m_states m_timerEvents m_transitions m_froms m_events m_variables m_relations m_numbers m_nexts m_sizes m_actions m_fired m_state m_time m_values m_runs m_dues m_emitted m_output m_ignored (1 : Int32) m_classes m_numbersOf m_offsets m_useds m_tableSize m_owners m_isReached m_areApart ++ ([(xq15, .inl (xc15, 12, .inl x_15))])) := hD
        have hP := hP.sub (ws' := (MW bd cb m_thrown m_states m_timerEvents m_transitions m_froms m_events m_variables m_relations m_numbers m_nexts m_sizes m_actions m_fired m_state m_time m_values m_runs m_dues m_emitted m_output m_ignored (1 : Int32) m_classes m_numbersOf m_offsets m_useds m_tableSize m_owners m_isReached m_areApart)) [0, 1, 2, 3, 4, 5, 6, 7, 8, 9, 10, 11, 12, 13, 14, 15, 16, 17, 18, 19, 20] rfl
        have hD := hD.sub (ws' := (MW bd cb m_thrown m_states m_timerEvents m_transitions m_froms m_events m_variables m_relations m_numbers m_nexts m_sizes m_actions m_fired m_state m_time m_values m_runs m_dues m_emitted m_output m_ignored (1 : Int32) m_classes m_numbersOf m_offsets m_useds m_tableSize m_owners m_isReached m_areApart)) [0, 1, 2, 3, 4, 5, 6, 7, 8, 9, 10, 11, 12, 13, 14, 15, 16, 17, 18, 19, 20] (by decide) rfl
        have hK := hK.sub (tys' := (MT cb)) [0, 1, 2, 3, 4, 5, 6, 7, 8, 9, 10, 11, 12, 13, 14, 15, 16, 17, 18, 19] rfl
        obtain rfl := Option.some.inj hf
        subst hZ
        exact pw_rv hx hb hr hlocks hK hP hD hS (Nat.le_of_ble_eq_true rfl) (Nat.le_of_ble_eq_true rfl) dX4_make_251
      · have hf := pr_f hf hc
        refine lv_iconst (v := (0 : Int32)) hx hb dX4_make_206 (by decide) ?_
        refine lv_istore_n (lv' := [(3, .int (0 : Int32)), (0, .ref (bd 0)), (1, .ref xq15), (2, .int v2)]) hx hb dX4_make_207 rfl hl (by decide) rfl (fun ls hl => ?_)
        exact L208 fu xq15 xc15 hK m_classes m_numbersOf m_offsets m_useds m_tableSize m_owners m_isReached m_areApart x_15 v2 (0 : Int32) H locs ls hP hD hS (lv_sub hl [1, 2, 3, 0] rfl) hf
  have L180 : ∀ n180 : Nat, ∀ (xq15 : Nat) (xc15 : ClassId), va_K D vwCl (MT cb ++ ([(xc15, .int)])) s → ∀ (m_classes : Int32) (m_numbersOf m_useds : Nat → Int32) (m_tableSize : Int32) (m_owners m_isReached m_areApart x_15 : Nat → Int32) (v2 : Int32) (H : Heap) (locs : List Loc) (ls : Array Slot), va_P D vwCl (MW bd cb m_thrown m_states m_timerEvents m_transitions m_froms m_events m_variables m_relations m_numbers m_nexts m_sizes m_actions m_fired m_state m_time m_values m_runs m_dues m_emitted m_output m_ignored m_isCompiled m_classes m_numbersOf m_offsets m_useds m_tableSize m_owners m_isReached m_areApart ++ ([(xq15, .inl (xc15, 12, .inl x_15))])) H → va_D A (MW bd cb m_thrown m_states m_timerEvents m_transitions m_froms m_events m_variables m_relations m_numbers m_nexts m_sizes m_actions m_fired m_state m_time m_values m_runs m_dues m_emitted m_output m_ignored m_isCompiled m_classes m_numbersOf m_offsets m_useds m_tableSize m_owners m_isReached m_areApart ++ ([(xq15, .inl (xc15, 12, .inl x_15))])) → va_S A s.heap H locs → lv_has ls 4 [(0, .ref (bd 0)), (1, .ref xq15), (2, .int v2)] → X4_make_L180 fu m_offsets n180 m_classes m_numbersOf m_useds m_tableSize m_owners m_isReached m_areApart x_15 v2 = some o → W p l e rmX4_make s m args below meth c H locs 1 12 Z (F0 m 180 ls []) := by
    intro n180
    induction n180 with
    | zero =>
      intro xq15 xc15 hK m_classes m_numbersOf m_useds m_tableSize m_owners m_isReached m_areApart x_15 v2 H locs ls hP hD hS hl hf
      exact pr_n hf
    | succ n180 ih180 =>
      intro xq15 xc15 hK m_classes m_numbersOf m_useds m_tableSize m_owners m_isReached m_areApart x_15 v2 H locs ls hP hD hS hl hf
      replace hf : X4_make_B180 fu m_offsets (X4_make_L180 fu m_offsets  n180) m_classes m_numbersOf m_useds m_tableSize m_owners m_isReached m_areApart x_15 v2 = some o := hf
      unfold X4_make_B180 at hf
      refine lv_iload_n hx hb dX4_make_180 rfl (lv_at hl 2 rfl) ?_
      refine lv_bipush (v := (120 : Int32)) hx hb dX4_make_181 (by decide) ?_
      refine lv_icmp_ge (tgt := 199) hx hb dX4_make_183 (by decide) (fun hc => ?_) (fun hc => ?_)
      · have hf := pr_t hf hc
        refine lv_bipush (v := (8 : Int32)) hx hb dX4_make_199 (by decide) ?_
        refine lv_istore_n (lv' := [(2, .int (8 : Int32)), (0, .ref (bd 0)), (1, .ref xq15)]) hx hb dX4_make_201 rfl hl (by decide) rfl (fun ls hl => ?_)
        exact L202 fu xq15 xc15 hK m_classes m_numbersOf m_offsets m_useds m_tableSize m_owners m_isReached m_areApart x_15 (8 : Int32) H locs ls hP hD hS (lv_sub hl [1, 2, 0] rfl) hf
      · have hf := pr_f hf hc
        refine lv_aload_n hx hb dX4_make_186 rfl (lv_at hl 0 rfl) ?_
        refine va_get (D := D) (ci := 4) (v := .ref (bd 18)) (C := RX4) (T := TX4) (N := 30) hx hb hts hiX4 hown hK hP 0 rfl rfl 27 (by decide) f67 (fun _ h9 => h9) rfl dX4_make_187 ?_
        refine lv_iload_n hx hb dX4_make_190 rfl (lv_at hl 2 rfl) ?_
        refine lv_iconst (v := (-1 : Int32)) hx hb dX4_make_191 (by decide) ?_
        obtain ⟨hi192, hf⟩ := pr_in hf
        refine va_iast hx hb hK hP hD hS 18 17 rfl rfl hi192 dX4_make_192 (fun H locs hP hD hS => ?_)
        have hP : va_P D vwCl (MW bd cb m_thrown m_states m_timerEvents m_transitions m_froms m_events m_variables m_relations m_numbers m_nexts m_sizes m_actions m_fired m_state m_time m_values m_runs m_dues m_emitted m_output m_ignored m_isCompiled m_classes m_numbersOf m_offsets m_useds m_tableSize (upd m_owners v2.toNatClampNeg (-1 : Int32)) m_isReached m_areApart ++ ([(xq15, .inl (xc15, 12, .inl x_15))])) H := hP
        have hD : va_D A (MW bd cb m_thrown m_states m_timerEvents m_transitions m_froms m_events m_variables m_relations m_numbers m_nexts m_sizes m_actions m_fired m_state m_time m_values m_runs m_dues m_emitted m_output m_ignored m_isCompiled m_classes m_numbersOf m_offsets m_useds m_tableSize (upd m_owners v2.toNatClampNeg (-1 : Int32)) m_isReached m_areApart ++ ([(xq15, .inl (xc15, 12, .inl x_15))])) := hD
        refine lv_iinc (v := (v2 + (1 : Int32))) (lv' := [(2, .int (v2 + (1 : Int32))), (0, .ref (bd 0)), (1, .ref xq15)]) hx hb dX4_make_193 hl (k := 2) rfl rfl (by decide) rfl (fun ls hl => ?_)
        refine lv_goto (tgt := 180) hx hb dX4_make_196 (by decide) ?_
        exact ih180 xq15 xc15 hK m_classes m_numbersOf m_useds m_tableSize (upd m_owners v2.toNatClampNeg (-1 : Int32)) m_isReached m_areApart x_15 (v2 + (1 : Int32)) H locs ls hP hD hS (lv_sub hl [1, 2, 0] rfl) hf
  have L20 : ∀ n20 : Nat, ∀ (xq15 : Nat) (xc15 : ClassId), va_K D vwCl (MT cb ++ ([(xc15, .int)])) s → ∀ (m_classes : Int32) (m_numbersOf m_useds m_isReached m_areApart x_15 : Nat → Int32) (v2 : Int32) (H : Heap) (locs : List Loc) (ls : Array Slot), va_P D vwCl (MW bd cb m_thrown m_states m_timerEvents m_transitions m_froms m_events m_variables m_relations m_numbers m_nexts m_sizes m_actions m_fired m_state m_time m_values m_runs m_dues m_emitted m_output m_ignored m_isCompiled m_classes m_numbersOf m_offsets m_useds m_tableSize m_owners m_isReached m_areApart ++ ([(xq15, .inl (xc15, 12, .inl x_15))])) H → va_D A (MW bd cb m_thrown m_states m_timerEvents m_transitions m_froms m_events m_variables m_relations m_numbers m_nexts m_sizes m_actions m_fired m_state m_time m_values m_runs m_dues m_emitted m_output m_ignored m_isCompiled m_classes m_numbersOf m_offsets m_useds m_tableSize m_owners m_isReached m_areApart ++ ([(xq15, .inl (xc15, 12, .inl x_15))])) → va_S A s.heap H locs → lv_has ls 4 [(0, .ref (bd 0)), (1, .ref xq15), (2, .int v2)] → X4_make_L20 fu m_states m_transitions m_froms m_events m_offsets m_owners n20 m_classes m_numbersOf m_useds m_isReached m_areApart x_15 v2 = some o → W p l e rmX4_make s m args below meth c H locs 1 12 Z (F0 m 20 ls []) := by
    intro n20
    induction n20 with
    | zero =>
      intro xq15 xc15 hK m_classes m_numbersOf m_useds m_isReached m_areApart x_15 v2 H locs ls hP hD hS hl hf
      exact pr_n hf
    | succ n20 ih20 =>
      have B105 : ∀ (xq15 : Nat) (xc15 : ClassId), va_K D vwCl (MT cb ++ ([(xc15, .int)])) s → ∀ (m_classes : Int32) (m_numbersOf m_useds m_isReached m_areApart x_15 : Nat → Int32) (v2 : Int32) (H : Heap) (locs : List Loc) (ls : Array Slot), va_P D vwCl (MW bd cb m_thrown m_states m_timerEvents m_transitions m_froms m_events m_variables m_relations m_numbers m_nexts m_sizes m_actions m_fired m_state m_time m_values m_runs m_dues m_emitted m_output m_ignored m_isCompiled m_classes m_numbersOf m_offsets m_useds m_tableSize m_owners m_isReached m_areApart ++ ([(xq15, .inl (xc15, 12, .inl x_15))])) H → va_D A (MW bd cb m_thrown m_states m_timerEvents m_transitions m_froms m_events m_variables m_relations m_numbers m_nexts m_sizes m_actions m_fired m_state m_time m_values m_runs m_dues m_emitted m_output m_ignored m_isCompiled m_classes m_numbersOf m_offsets m_useds m_tableSize m_owners m_isReached m_areApart ++ ([(xq15, .inl (xc15, 12, .inl x_15))])) → va_S A s.heap H locs → lv_has ls 4 [(0, .ref (bd 0)), (1, .ref xq15), (2, .int v2)] → X4_make_B105 fu m_transitions m_froms m_events (X4_make_L20 fu m_states m_transitions m_froms m_events m_offsets m_owners n20) m_classes m_numbersOf m_useds m_isReached m_areApart x_15 v2 = some o → W p l e rmX4_make s m args below meth c H locs 1 12 Z (F0 m 105 ls []) := by
        intro xq15 xc15 hK m_classes m_numbersOf m_useds m_isReached m_areApart x_15 v2 H locs ls hP hD hS hl hf
        unfold X4_make_B105 at hf
        refine lv_aload_n hx hb dX4_make_105 rfl (lv_at hl 0 rfl) ?_
        refine va_get (D := D) (ci := 4) (v := .ref (bd 15)) (C := RX4) (T := TX4) (N := 30) hx hb hts hiX4 hown hK hP 0 rfl rfl 23 (by decide) f58 (fun _ h9 => h9) rfl dX4_make_106 ?_
        refine lv_iload_n hx hb dX4_make_109 rfl (lv_at hl 2 rfl) ?_
        obtain ⟨hi110, hf⟩ := pr_in hf
        refine va_iald hx hb hK hP 15 14 rfl rfl hi110 dX4_make_110 ?_
        refine lv_iconst (v := (-1 : Int32)) hx hb dX4_make_111 (by decide) ?_
        refine lv_icmp_eq (tgt := 118) hx hb dX4_make_112 (by decide) (fun hc => ?_) (fun hc => ?_)
        · have hf := pr_t hf hc
          refine lv_aload_n hx hb dX4_make_118 rfl (lv_at hl 0 rfl) ?_
          refine va_get (D := D) (ci := 4) (v := .ref (bd 15)) (C := RX4) (T := TX4) (N := 30) hx hb hts hiX4 hown hK hP 0 rfl rfl 23 (by decide) f58 (fun _ h9 => h9) rfl dX4_make_119 ?_
          refine lv_iload_n hx hb dX4_make_122 rfl (lv_at hl 2 rfl) ?_
          refine lv_aload_n hx hb dX4_make_123 rfl (lv_at hl 0 rfl) ?_
          refine va_get (D := D) (ci := 4) (v := .int m_classes) (C := RX4) (T := TX4) (N := 30) hx hb hts hiX4 hown hK hP 0 rfl rfl 22 (by decide) f172 (fun _ h9 => h9) rfl dX4_make_124 ?_
          refine va_iast hx hb hK hP hD hS 15 14 rfl rfl hi110 dX4_make_127 (fun H locs hP hD hS => ?_)
          have hP : va_P D vwCl (MW bd cb m_thrown m_states m_timerEvents m_transitions m_froms m_events m_variables m_relations m_numbers m_nexts m_sizes m_actions m_fired m_state m_time m_values m_runs m_dues m_emitted m_output m_ignored m_isCompiled m_classes (upd m_numbersOf v2.toNatClampNeg m_classes) m_offsets m_useds m_tableSize m_owners m_isReached m_areApart ++ ([(xq15, .inl (xc15, 12, .inl x_15))])) H := hP
          have hD : va_D A (MW bd cb m_thrown m_states m_timerEvents m_transitions m_froms m_events m_variables m_relations m_numbers m_nexts m_sizes m_actions m_fired m_state m_time m_values m_runs m_dues m_emitted m_output m_ignored m_isCompiled m_classes (upd m_numbersOf v2.toNatClampNeg m_classes) m_offsets m_useds m_tableSize m_owners m_isReached m_areApart ++ ([(xq15, .inl (xc15, 12, .inl x_15))])) := hD
          refine lv_aload_n hx hb dX4_make_128 rfl (lv_at hl 1 rfl) ?_
          refine lv_aload_n hx hb dX4_make_129 rfl (lv_at hl 0 rfl) ?_
          refine va_get (D := D) (ci := 4) (v := .int m_classes) (C := RX4) (T := TX4) (N := 30) hx hb hts hiX4 hown hK hP 0 rfl rfl 22 (by decide) f172 (fun _ h9 => h9) rfl dX4_make_130 ?_
          refine lv_aload_n hx hb dX4_make_133 rfl (lv_at hl 0 rfl) ?_
          refine lv_iload_n hx hb dX4_make_134 rfl (lv_at hl 2 rfl) ?_
          obtain ⟨x135, hg135, hf⟩ := pr_b hf
          have hKc := hK.sub (tys' := (MT cb)) [0, 1, 2, 3, 4, 5, 6, 7, 8, 9, 10, 11, 12, 13, 14, 15, 16, 17, 18, 19] rfl
          refine pw_cViP (b := bd 0) (As := [.int v2]) (rest := [.int m_classes, .ref xq15]) ⟨hx, hb, hml, hown, hts⟩ (c_X4_usedEvents fu (D := D) m_thrown m_states m_timerEvents m_transitions m_froms m_events m_variables m_relations m_numbers m_nexts m_sizes m_actions m_fired m_state m_time m_values m_runs m_dues m_emitted m_output m_ignored m_isCompiled m_classes (upd m_numbersOf v2.toNatClampNeg m_classes) m_offsets m_useds m_tableSize m_owners m_isReached m_areApart v2 hg135) (cwV 1 hts gX4_make_X4_usedEvents rfl rfl rfl (by decide +kernel) ⟨Nat.le_of_ble_eq_true rfl, Nat.le_of_ble_eq_true rfl⟩) 0 4 rfl rfl hKc hP hD hS hA [0, 1, 2, 3, 4, 5, 6, 7, 8, 9, 10, 11, 12, 13, 14, 15, 16, 17, 18, 19, 20] [21] rfl rfl (by decide) (by decide) (by decide) rfl hl.1 rfl (Nat.le_of_ble_eq_true rfl) dX4_make_135 ⟨Nat.le_of_ble_eq_true rfl, Nat.le_of_ble_eq_true rfl⟩ (fun H locs hP hD hS => ?_)
          have hP := hP.sub (ws' := (MW bd cb m_thrown m_states m_timerEvents m_transitions m_froms m_events m_variables m_relations m_numbers m_nexts m_sizes m_actions m_fired m_state m_time m_values m_runs m_dues m_emitted m_output m_ignored m_isCompiled m_classes (upd m_numbersOf v2.toNatClampNeg m_classes) m_offsets m_useds m_tableSize m_owners m_isReached m_areApart ++ ([(xq15, .inl (xc15, 12, .inl x_15))]))) [1, 2, 3, 4, 5, 6, 7, 8, 9, 10, 11, 12, 13, 14, 15, 16, 17, 18, 19, 20, 21, 0] rfl
          have hD := hD.sub (ws' := (MW bd cb m_thrown m_states m_timerEvents m_transitions m_froms m_events m_variables m_relations m_numbers m_nexts m_sizes m_actions m_fired m_state m_time m_values m_runs m_dues m_emitted m_output m_ignored m_isCompiled m_classes (upd m_numbersOf v2.toNatClampNeg m_classes) m_offsets m_useds m_tableSize m_owners m_isReached m_areApart ++ ([(xq15, .inl (xc15, 12, .inl x_15))]))) [1, 2, 3, 4, 5, 6, 7, 8, 9, 10, 11, 12, 13, 14, 15, 16, 17, 18, 19, 20, 21, 0] (by decide) rfl
          obtain ⟨hi138, hf⟩ := pr_in hf
          refine va_iast hx hb hK hP hD hS 21 20 rfl rfl hi138 dX4_make_138 (fun H locs hP hD hS => ?_)
          have hP : va_P D vwCl (MW bd cb m_thrown m_states m_timerEvents m_transitions m_froms m_events m_variables m_relations m_numbers m_nexts m_sizes m_actions m_fired m_state m_time m_values m_runs m_dues m_emitted m_output m_ignored m_isCompiled m_classes (upd m_numbersOf v2.toNatClampNeg m_classes) m_offsets m_useds m_tableSize m_owners m_isReached m_areApart ++ ([(xq15, .inl (xc15, 12, .inl (upd x_15 m_classes.toNatClampNeg x135)))])) H := hP
          have hD : va_D A (MW bd cb m_thrown m_states m_timerEvents m_transitions m_froms m_events m_variables m_relations m_numbers m_nexts m_sizes m_actions m_fired m_state m_time m_values m_runs m_dues m_emitted m_output m_ignored m_isCompiled m_classes (upd m_numbersOf v2.toNatClampNeg m_classes) m_offsets m_useds m_tableSize m_owners m_isReached m_areApart ++ ([(xq15, .inl (xc15, 12, .inl (upd x_15 m_classes.toNatClampNeg x135)))])) := hD
          refine lv_aload_n hx hb dX4_make_139 rfl (lv_at hl 0 rfl) ?_
          refine va_get (D := D) (ci := 4) (v := .ref (bd 17)) (C := RX4) (T := TX4) (N := 30) hx hb hts hiX4 hown hK hP 0 rfl rfl 25 (by decide) f64 (fun _ h9 => h9) rfl dX4_make_140 ?_
          refine lv_aload_n hx hb dX4_make_143 rfl (lv_at hl 0 rfl) ?_
          refine va_get (D := D) (ci := 4) (v := .int m_classes) (C := RX4) (T := TX4) (N := 30) hx hb hts hiX4 hown hK hP 0 rfl rfl 22 (by decide) f172 (fun _ h9 => h9) rfl dX4_make_144 ?_
          refine lv_aload_n hx hb dX4_make_147 rfl (lv_at hl 1 rfl) ?_
          refine lv_aload_n hx hb dX4_make_148 rfl (lv_at hl 0 rfl) ?_
          refine va_get (D := D) (ci := 4) (v := .int m_classes) (C := RX4) (T := TX4) (N := 30) hx hb hts hiX4 hown hK hP 0 rfl rfl 22 (by decide) f172 (fun _ h9 => h9) rfl dX4_make_149 ?_
          refine va_iald hx hb hK hP 21 20 rfl rfl hi138 dX4_make_152 ?_
          obtain ⟨x153, hg153, hf⟩ := pr_b hf
          refine pw_cSiE (As := [.int ((upd x_15 m_classes.toNatClampNeg x135) m_classes.toNatClampNeg)]) (rest := [.int m_classes, .ref (bd 17)]) ⟨hx, hb, hml, hown, hts⟩ (c_J6_bitCount_0f7a4 (D := D) (tys := (MT cb ++ ([(xc15, .int)]))) ((upd x_15 m_classes.toNatClampNeg x135) m_classes.toNatClampNeg) hg153) (va_cwS 1 hts gX4_make_J6_bitCount_0f7a4 rfl rfl rfl (by decide +kernel) ⟨Nat.le_of_ble_eq_true rfl, Nat.le_of_ble_eq_true rfl⟩) hK hP hD hS hA rfl hl.1 rfl (Nat.le_of_ble_eq_true rfl) dX4_make_153 ⟨Nat.le_of_ble_eq_true rfl, Nat.le_of_ble_eq_true rfl⟩ (fun H locs hP hD hS => ?_)
          refine va_iast hx hb hK hP hD hS 17 16 rfl rfl hi138 dX4_make_156 (fun H locs hP hD hS => ?_)
          have hP : va_P D vwCl (MW bd cb m_thrown m_states m_timerEvents m_transitions m_froms m_events m_variables m_relations m_numbers m_nexts m_sizes m_actions m_fired m_state m_time m_values m_runs m_dues m_emitted m_output m_ignored m_isCompiled m_classes (upd m_numbersOf v2.toNatClampNeg m_classes) m_offsets (upd m_useds m_classes.toNatClampNeg x153) m_tableSize m_owners m_isReached m_areApart ++ ([(xq15, .inl (xc15, 12, .inl (upd x_15 m_classes.toNatClampNeg x135)))])) H := hP
          have hD : va_D A (MW bd cb m_thrown m_states m_timerEvents m_transitions m_froms m_events m_variables m_relations m_numbers m_nexts m_sizes m_actions m_fired m_state m_time m_values m_runs m_dues m_emitted m_output m_ignored m_isCompiled m_classes (upd m_numbersOf v2.toNatClampNeg m_classes) m_offsets (upd m_useds m_classes.toNatClampNeg x153) m_tableSize m_owners m_isReached m_areApart ++ ([(xq15, .inl (xc15, 12, .inl (upd x_15 m_classes.toNatClampNeg x135)))])) := hD
          refine lv_aload_n hx hb dX4_make_157 rfl (lv_at hl 0 rfl) ?_
          refine lv_dup hx hb dX4_make_158 rfl ?_
          refine va_get (D := D) (ci := 4) (v := .int m_classes) (C := RX4) (T := TX4) (N := 30) hx hb hts hiX4 hown hK hP 0 rfl rfl 22 (by decide) f172 (fun _ h9 => h9) rfl dX4_make_159 ?_
          refine lv_iconst (v := (1 : Int32)) hx hb dX4_make_162 (by decide) ?_
          refine lv_iadd hx hb dX4_make_163 ?_
          refine va_put (D := D) (ci := 4) (v := .int (m_classes + (1 : Int32))) (ty := .int) (C := RX4) (T := TX4) (N := 30) hx hb hts hiX4 tyX4 tyX4_ok nmX4 hown hK hP hD hS 0 rfl rfl 22 (by decide) f172 (fun _ h9 => h9) rfl (by decide +kernel) rfl rfl (Nat.le_of_ble_eq_true rfl) dX4_make_164 (fun H locs hP hD hS => ?_)
          have hP : va_P D vwCl (MW bd cb m_thrown m_states m_timerEvents m_transitions m_froms m_events m_variables m_relations m_numbers m_nexts m_sizes m_actions m_fired m_state m_time m_values m_runs m_dues m_emitted m_output m_ignored m_isCompiled (m_classes + (1 : Int32)) (upd m_numbersOf v2.toNatClampNeg m_classes) m_offsets (upd m_useds m_classes.toNatClampNeg x153) m_tableSize m_owners m_isReached m_areApart ++ ([(xq15, .inl (xc15, 12, .inl (upd x_15 m_classes.toNatClampNeg x135)))])) H := hP
          have hD : va_D A (MW bd cb m_thrown m_states m_timerEvents m_transitions m_froms m_events m_variables m_relations m_numbers m_nexts m_sizes m_actions m_fired m_state m_time m_values m_runs m_dues m_emitted m_output m_ignored m_isCompiled (m_classes + (1 : Int32)) (upd m_numbersOf v2.toNatClampNeg m_classes) m_offsets (upd m_useds m_classes.toNatClampNeg x153) m_tableSize m_owners m_isReached m_areApart ++ ([(xq15, .inl (xc15, 12, .inl (upd x_15 m_classes.toNatClampNeg x135)))])) := hD
          refine lv_iinc (v := (v2 + (1 : Int32))) (lv' := [(2, .int (v2 + (1 : Int32))), (0, .ref (bd 0)), (1, .ref xq15)]) hx hb dX4_make_167 hl (k := 2) rfl rfl (by decide) rfl (fun ls hl => ?_)
          refine lv_goto (tgt := 20) hx hb dX4_make_170 (by decide) ?_
          exact ih20 xq15 xc15 hK (m_classes + (1 : Int32)) (upd m_numbersOf v2.toNatClampNeg m_classes) (upd m_useds m_classes.toNatClampNeg x153) m_isReached m_areApart (upd x_15 m_classes.toNatClampNeg x135) (v2 + (1 : Int32)) H locs ls hP hD hS (lv_sub hl [1, 2, 0] rfl) hf
        · have hf := pr_f hf hc
          refine lv_goto (tgt := 167) hx hb dX4_make_115 (by decide) ?_
          refine lv_iinc (v := (v2 + (1 : Int32))) (lv' := [(2, .int (v2 + (1 : Int32))), (0, .ref (bd 0)), (1, .ref xq15)]) hx hb dX4_make_167 hl (k := 2) rfl rfl (by decide) rfl (fun ls hl => ?_)
          refine lv_goto (tgt := 20) hx hb dX4_make_170 (by decide) ?_
          exact ih20 xq15 xc15 hK m_classes m_numbersOf m_useds m_isReached m_areApart x_15 (v2 + (1 : Int32)) H locs ls hP hD hS (lv_sub hl [1, 2, 0] rfl) hf
      have L49 : ∀ n49 : Nat, ∀ (xq15 : Nat) (xc15 : ClassId), va_K D vwCl (MT cb ++ ([(xc15, .int)])) s → ∀ (m_classes : Int32) (m_numbersOf m_useds m_isReached m_areApart x_15 : Nat → Int32) (v2 v3 : Int32) (H : Heap) (locs : List Loc) (ls : Array Slot), va_P D vwCl (MW bd cb m_thrown m_states m_timerEvents m_transitions m_froms m_events m_variables m_relations m_numbers m_nexts m_sizes m_actions m_fired m_state m_time m_values m_runs m_dues m_emitted m_output m_ignored m_isCompiled m_classes m_numbersOf m_offsets m_useds m_tableSize m_owners m_isReached m_areApart ++ ([(xq15, .inl (xc15, 12, .inl x_15))])) H → va_D A (MW bd cb m_thrown m_states m_timerEvents m_transitions m_froms m_events m_variables m_relations m_numbers m_nexts m_sizes m_actions m_fired m_state m_time m_values m_runs m_dues m_emitted m_output m_ignored m_isCompiled m_classes m_numbersOf m_offsets m_useds m_tableSize m_owners m_isReached m_areApart ++ ([(xq15, .inl (xc15, 12, .inl x_15))])) → va_S A s.heap H locs → lv_has ls 4 [(0, .ref (bd 0)), (1, .ref xq15), (2, .int v2), (3, .int v3)] → X4_make_L49 fu m_transitions m_froms m_events (X4_make_L20 fu m_states m_transitions m_froms m_events m_offsets m_owners n20) n49 m_classes m_numbersOf m_useds m_isReached m_areApart x_15 v2 v3 = some o → W p l e rmX4_make s m args below meth c H locs 1 12 Z (F0 m 49 ls []) := by
        intro n49
        induction n49 with
        | zero =>
          intro xq15 xc15 hK m_classes m_numbersOf m_useds m_isReached m_areApart x_15 v2 v3 H locs ls hP hD hS hl hf
          exact pr_n hf
        | succ n49 ih49 =>
          intro xq15 xc15 hK m_classes m_numbersOf m_useds m_isReached m_areApart x_15 v2 v3 H locs ls hP hD hS hl hf
          replace hf : X4_make_B49 fu m_transitions m_froms m_events (X4_make_L20 fu m_states m_transitions m_froms m_events m_offsets m_owners  n20) (X4_make_L49 fu m_transitions m_froms m_events (X4_make_L20 fu m_states m_transitions m_froms m_events m_offsets m_owners  n20) n49) m_classes m_numbersOf m_useds m_isReached m_areApart x_15 v2 v3 = some o := hf
          unfold X4_make_B49 at hf
          refine lv_iload_n hx hb dX4_make_49 rfl (lv_at hl 3 rfl) ?_
          refine lv_iload_n hx hb dX4_make_50 rfl (lv_at hl 2 rfl) ?_
          refine lv_icmp_ge (tgt := 105) hx hb dX4_make_51 (by decide) (fun hc => ?_) (fun hc => ?_)
          · have hf := pr_t hf hc
            exact B105 xq15 xc15 hK m_classes m_numbersOf m_useds m_isReached m_areApart x_15 v2 H locs ls hP hD hS (lv_sub hl [0, 1, 2] rfl) hf
          · have hf := pr_f hf hc
            refine lv_aload_n hx hb dX4_make_54 rfl (lv_at hl 0 rfl) ?_
            refine va_get (D := D) (ci := 4) (v := .ref (bd 15)) (C := RX4) (T := TX4) (N := 30) hx hb hts hiX4 hown hK hP 0 rfl rfl 23 (by decide) f58 (fun _ h9 => h9) rfl dX4_make_55 ?_
            refine lv_iload_n hx hb dX4_make_58 rfl (lv_at hl 2 rfl) ?_
            obtain ⟨hi59, hf⟩ := pr_in hf
            refine va_iald hx hb hK hP 15 14 rfl rfl hi59 dX4_make_59 ?_
            refine lv_iconst (v := (-1 : Int32)) hx hb dX4_make_60 (by decide) ?_
            refine lv_icmp_ne (tgt := 105) hx hb dX4_make_61 (by decide) (fun hc => ?_) (fun hc => ?_)
            · have hf := pr_f hf hc
              exact B105 xq15 xc15 hK m_classes m_numbersOf m_useds m_isReached m_areApart x_15 v2 H locs ls hP hD hS (lv_sub hl [0, 1, 2] rfl) hf
            · have hf := pr_t hf hc
              refine lv_aload_n hx hb dX4_make_64 rfl (lv_at hl 0 rfl) ?_
              refine va_get (D := D) (ci := 4) (v := .ref (bd 19)) (C := RX4) (T := TX4) (N := 30) hx hb hts hiX4 hown hK hP 0 rfl rfl 28 (by decide) f70 (fun _ h9 => h9) rfl dX4_make_65 ?_
              refine lv_iload_n hx hb dX4_make_68 rfl (lv_at hl 3 rfl) ?_
              obtain ⟨hi69, hf⟩ := pr_in hf
              refine va_zald hx hb hK hP 19 18 rfl rfl hi69 dX4_make_69 ?_
              refine lv_if_eq (tgt := 99) hx hb dX4_make_70 (by decide) (fun hc => ?_) (fun hc => ?_)
              · have hf := pr_t hf hc
                refine lv_iinc (v := (v3 + (1 : Int32))) (lv' := [(3, .int (v3 + (1 : Int32))), (0, .ref (bd 0)), (1, .ref xq15), (2, .int v2)]) hx hb dX4_make_99 hl (k := 3) rfl rfl (by decide) rfl (fun ls hl => ?_)
                refine lv_goto (tgt := 49) hx hb dX4_make_102 (by decide) ?_
                exact ih49 xq15 xc15 hK m_classes m_numbersOf m_useds m_isReached m_areApart x_15 v2 (v3 + (1 : Int32)) H locs ls hP hD hS (lv_sub hl [1, 2, 3, 0] rfl) hf
              · have hf := pr_f hf hc
                refine lv_aload_n hx hb dX4_make_73 rfl (lv_at hl 0 rfl) ?_
                refine va_get (D := D) (ci := 4) (v := .ref (bd 20)) (C := RX4) (T := TX4) (N := 30) hx hb hts hiX4 hown hK hP 0 rfl rfl 29 (by decide) f73 (fun _ h9 => h9) rfl dX4_make_74 ?_
                refine lv_bipush (v := (12 : Int32)) hx hb dX4_make_77 (by decide) ?_
                refine lv_iload_n hx hb dX4_make_79 rfl (lv_at hl 2 rfl) ?_
                refine lv_imul hx hb dX4_make_80 ?_
                refine lv_iload_n hx hb dX4_make_81 rfl (lv_at hl 3 rfl) ?_
                refine lv_iadd hx hb dX4_make_82 ?_
                obtain ⟨hi83, hf⟩ := pr_in hf
                refine va_zald hx hb hK hP 20 19 rfl rfl hi83 dX4_make_83 ?_
                refine lv_if_ne (tgt := 99) hx hb dX4_make_84 (by decide) (fun hc => ?_) (fun hc => ?_)
                · have hf := pr_f hf hc
                  refine lv_iinc (v := (v3 + (1 : Int32))) (lv' := [(3, .int (v3 + (1 : Int32))), (0, .ref (bd 0)), (1, .ref xq15), (2, .int v2)]) hx hb dX4_make_99 hl (k := 3) rfl rfl (by decide) rfl (fun ls hl => ?_)
                  refine lv_goto (tgt := 49) hx hb dX4_make_102 (by decide) ?_
                  exact ih49 xq15 xc15 hK m_classes m_numbersOf m_useds m_isReached m_areApart x_15 v2 (v3 + (1 : Int32)) H locs ls hP hD hS (lv_sub hl [1, 2, 3, 0] rfl) hf
                · have hf := pr_t hf hc
                  refine lv_aload_n hx hb dX4_make_87 rfl (lv_at hl 0 rfl) ?_
                  refine va_get (D := D) (ci := 4) (v := .ref (bd 15)) (C := RX4) (T := TX4) (N := 30) hx hb hts hiX4 hown hK hP 0 rfl rfl 23 (by decide) f58 (fun _ h9 => h9) rfl dX4_make_88 ?_
                  refine lv_iload_n hx hb dX4_make_91 rfl (lv_at hl 2 rfl) ?_
                  refine lv_aload_n hx hb dX4_make_92 rfl (lv_at hl 0 rfl) ?_
                  refine va_get (D := D) (ci := 4) (v := .ref (bd 15)) (C := RX4) (T := TX4) (N := 30) hx hb hts hiX4 hown hK hP 0 rfl rfl 23 (by decide) f58 (fun _ h9 => h9) rfl dX4_make_93 ?_
                  refine lv_iload_n hx hb dX4_make_96 rfl (lv_at hl 3 rfl) ?_
                  refine va_iald hx hb hK hP 15 14 rfl rfl hi69 dX4_make_97 ?_
                  refine va_iast hx hb hK hP hD hS 15 14 rfl rfl hi59 dX4_make_98 (fun H locs hP hD hS => ?_)
                  have hP : va_P D vwCl (MW bd cb m_thrown m_states m_timerEvents m_transitions m_froms m_events m_variables m_relations m_numbers m_nexts m_sizes m_actions m_fired m_state m_time m_values m_runs m_dues m_emitted m_output m_ignored m_isCompiled m_classes (upd m_numbersOf v2.toNatClampNeg (m_numbersOf v3.toNatClampNeg)) m_offsets m_useds m_tableSize m_owners m_isReached m_areApart ++ ([(xq15, .inl (xc15, 12, .inl x_15))])) H := hP
                  have hD : va_D A (MW bd cb m_thrown m_states m_timerEvents m_transitions m_froms m_events m_variables m_relations m_numbers m_nexts m_sizes m_actions m_fired m_state m_time m_values m_runs m_dues m_emitted m_output m_ignored m_isCompiled m_classes (upd m_numbersOf v2.toNatClampNeg (m_numbersOf v3.toNatClampNeg)) m_offsets m_useds m_tableSize m_owners m_isReached m_areApart ++ ([(xq15, .inl (xc15, 12, .inl x_15))])) := hD
                  refine lv_iinc (v := (v3 + (1 : Int32))) (lv' := [(3, .int (v3 + (1 : Int32))), (0, .ref (bd 0)), (1, .ref xq15), (2, .int v2)]) hx hb dX4_make_99 hl (k := 3) rfl rfl (by decide) rfl (fun ls hl => ?_)
                  refine lv_goto (tgt := 49) hx hb dX4_make_102 (by decide) ?_
                  exact ih49 xq15 xc15 hK m_classes (upd m_numbersOf v2.toNatClampNeg (m_numbersOf v3.toNatClampNeg)) m_useds m_isReached m_areApart x_15 v2 (v3 + (1 : Int32)) H locs ls hP hD hS (lv_sub hl [1, 2, 3, 0] rfl) hf
      intro xq15 xc15 hK m_classes m_numbersOf m_useds m_isReached m_areApart x_15 v2 H locs ls hP hD hS hl hf
      replace hf : X4_make_B20 fu m_states m_transitions m_froms m_events m_offsets m_owners (X4_make_L20 fu m_states m_transitions m_froms m_events m_offsets m_owners  n20) m_classes m_numbersOf m_useds m_isReached m_areApart x_15 v2 = some o := hf
      unfold X4_make_B20 at hf
      refine lv_iload_n hx hb dX4_make_20 rfl (lv_at hl 2 rfl) ?_
      refine lv_aload_n hx hb dX4_make_21 rfl (lv_at hl 0 rfl) ?_
      refine va_get (D := D) (ci := 4) (v := .int m_states) (C := RX4) (T := TX4) (N := 30) hx hb hts hiX4 hown hK hP 0 rfl rfl 1 (by decide) f7 (fun _ h9 => h9) rfl dX4_make_22 ?_
      refine lv_icmp_ge (tgt := 173) hx hb dX4_make_25 (by decide) (fun hc => ?_) (fun hc => ?_)
      · have hf := pr_t hf hc
        refine lv_aload_n hx hb dX4_make_173 rfl (lv_at hl 0 rfl) ?_
        refine lv_iconst (v := (0 : Int32)) hx hb dX4_make_174 (by decide) ?_
        refine va_put (D := D) (ci := 4) (v := .int (0 : Int32)) (ty := .int) (C := RX4) (T := TX4) (N := 30) hx hb hts hiX4 tyX4 tyX4_ok nmX4 hown hK hP hD hS 0 rfl rfl 26 (by decide) f163 (fun _ h9 => h9) rfl (by decide +kernel) rfl rfl (Nat.le_of_ble_eq_true rfl) dX4_make_175 (fun H locs hP hD hS => ?_)
        have hP : va_P D vwCl (MW bd cb m_thrown m_states m_timerEvents m_transitions m_froms m_events m_variables m_relations m_numbers m_nexts m_sizes m_actions m_fired m_state m_time m_values m_runs m_dues m_emitted m_output m_ignored m_isCompiled m_classes m_numbersOf m_offsets m_useds (0 : Int32) m_owners m_isReached m_areApart ++ ([(xq15, .inl (xc15, 12, .inl x_15))])) H := hP
        have hD : va_D A (MW bd cb m_thrown m_states m_timerEvents m_transitions m_froms m_events m_variables m_relations m_numbers m_nexts m_sizes m_actions m_fired m_state m_time m_values m_runs m_dues m_emitted m_output m_ignored m_isCompiled m_classes m_numbersOf m_offsets m_useds (0 : Int32) m_owners m_isReached m_areApart ++ ([(xq15, .inl (xc15, 12, .inl x_15))])) := hD
        refine lv_iconst (v := (0 : Int32)) hx hb dX4_make_178 (by decide) ?_
        refine lv_istore_n (lv' := [(2, .int (0 : Int32)), (0, .ref (bd 0)), (1, .ref xq15)]) hx hb dX4_make_179 rfl hl (by decide) rfl (fun ls hl => ?_)
        exact L180 fu xq15 xc15 hK m_classes m_numbersOf m_useds (0 : Int32) m_owners m_isReached m_areApart x_15 (0 : Int32) H locs ls hP hD hS (lv_sub hl [1, 2, 0] rfl) hf
      · have hf := pr_f hf hc
        refine lv_aload_n hx hb dX4_make_28 rfl (lv_at hl 0 rfl) ?_
        refine va_get (D := D) (ci := 4) (v := .ref (bd 15)) (C := RX4) (T := TX4) (N := 30) hx hb hts hiX4 hown hK hP 0 rfl rfl 23 (by decide) f58 (fun _ h9 => h9) rfl dX4_make_29 ?_
        refine lv_iload_n hx hb dX4_make_32 rfl (lv_at hl 2 rfl) ?_
        refine lv_iconst (v := (-1 : Int32)) hx hb dX4_make_33 (by decide) ?_
        obtain ⟨hi34, hf⟩ := pr_in hf
        refine va_iast hx hb hK hP hD hS 15 14 rfl rfl hi34 dX4_make_34 (fun H locs hP hD hS => ?_)
        have hP : va_P D vwCl (MW bd cb m_thrown m_states m_timerEvents m_transitions m_froms m_events m_variables m_relations m_numbers m_nexts m_sizes m_actions m_fired m_state m_time m_values m_runs m_dues m_emitted m_output m_ignored m_isCompiled m_classes (upd m_numbersOf v2.toNatClampNeg (-1 : Int32)) m_offsets m_useds m_tableSize m_owners m_isReached m_areApart ++ ([(xq15, .inl (xc15, 12, .inl x_15))])) H := hP
        have hD : va_D A (MW bd cb m_thrown m_states m_timerEvents m_transitions m_froms m_events m_variables m_relations m_numbers m_nexts m_sizes m_actions m_fired m_state m_time m_values m_runs m_dues m_emitted m_output m_ignored m_isCompiled m_classes (upd m_numbersOf v2.toNatClampNeg (-1 : Int32)) m_offsets m_useds m_tableSize m_owners m_isReached m_areApart ++ ([(xq15, .inl (xc15, 12, .inl x_15))])) := hD
        refine lv_aload_n hx hb dX4_make_35 rfl (lv_at hl 0 rfl) ?_
        refine va_get (D := D) (ci := 4) (v := .ref (bd 19)) (C := RX4) (T := TX4) (N := 30) hx hb hts hiX4 hown hK hP 0 rfl rfl 28 (by decide) f70 (fun _ h9 => h9) rfl dX4_make_36 ?_
        refine lv_iload_n hx hb dX4_make_39 rfl (lv_at hl 2 rfl) ?_
        refine va_zald hx hb hK hP 19 18 rfl rfl hi34 dX4_make_40 ?_
        refine lv_if_ne (tgt := 47) hx hb dX4_make_41 (by decide) (fun hc => ?_) (fun hc => ?_)
        · have hf := pr_f hf hc
          refine lv_iconst (v := (0 : Int32)) hx hb dX4_make_47 (by decide) ?_
          refine lv_istore_n (lv' := [(3, .int (0 : Int32)), (0, .ref (bd 0)), (1, .ref xq15), (2, .int v2)]) hx hb dX4_make_48 rfl hl (by decide) rfl (fun ls hl => ?_)
          exact L49 fu xq15 xc15 hK m_classes (upd m_numbersOf v2.toNatClampNeg (-1 : Int32)) m_useds m_isReached m_areApart x_15 v2 (0 : Int32) H locs ls hP hD hS (lv_sub hl [1, 2, 3, 0] rfl) hf
        · have hf := pr_t hf hc
          refine lv_goto (tgt := 167) hx hb dX4_make_44 (by decide) ?_
          refine lv_iinc (v := (v2 + (1 : Int32))) (lv' := [(2, .int (v2 + (1 : Int32))), (0, .ref (bd 0)), (1, .ref xq15)]) hx hb dX4_make_167 hl (k := 2) rfl rfl (by decide) rfl (fun ls hl => ?_)
          refine lv_goto (tgt := 20) hx hb dX4_make_170 (by decide) ?_
          exact ih20 xq15 xc15 hK m_classes (upd m_numbersOf v2.toNatClampNeg (-1 : Int32)) m_useds m_isReached m_areApart x_15 (v2 + (1 : Int32)) H locs ls hP hD hS (lv_sub hl [1, 2, 0] rfl) hf
  unfold X4_make at hf
  refine lv_aload_n hx hb dX4_make_0 rfl (lv_at hl 0 rfl) ?_
  obtain ⟨x1, hg1, hf⟩ := pr_b hf
  refine pw_cVvW (b := bd 0) (As := []) (rest := []) ⟨hx, hb, hml, hown, hts⟩ (c_X4_reach fu (D := D) m_thrown m_states m_timerEvents m_transitions m_froms m_events m_variables m_relations m_numbers m_nexts m_sizes m_actions m_fired m_state m_time m_values m_runs m_dues m_emitted m_output m_ignored m_isCompiled m_classes m_numbersOf m_offsets m_useds m_tableSize m_owners m_isReached m_areApart  hg1) (cwV 0 hts gX4_make_X4_reach rfl rfl rfl (by decide +kernel) ⟨Nat.le_of_ble_eq_true rfl, Nat.le_of_ble_eq_true rfl⟩) 0 4 rfl rfl hK hP hD hS hA rfl hl.1 rfl (Nat.le_of_ble_eq_true rfl) dX4_make_1 ⟨Nat.le_of_ble_eq_true rfl, Nat.le_of_ble_eq_true rfl⟩ (fun H locs hP hD hS => ?_)
  have hP : va_P D vwCl (MW bd cb m_thrown m_states m_timerEvents m_transitions m_froms m_events m_variables m_relations m_numbers m_nexts m_sizes m_actions m_fired m_state m_time m_values m_runs m_dues m_emitted m_output m_ignored m_isCompiled m_classes m_numbersOf m_offsets m_useds m_tableSize m_owners x1 m_areApart) H := hP
  have hD : va_D A (MW bd cb m_thrown m_states m_timerEvents m_transitions m_froms m_events m_variables m_relations m_numbers m_nexts m_sizes m_actions m_fired m_state m_time m_values m_runs m_dues m_emitted m_output m_ignored m_isCompiled m_classes m_numbersOf m_offsets m_useds m_tableSize m_owners x1 m_areApart) := hD
  refine lv_aload_n hx hb dX4_make_4 rfl (lv_at hl 0 rfl) ?_
  obtain ⟨x5, hg5, hf⟩ := pr_b hf
  refine pw_cVvW (b := bd 0) (As := []) (rest := []) ⟨hx, hb, hml, hown, hts⟩ (c_X4_takeApart fu (D := D) m_thrown m_states m_timerEvents m_transitions m_froms m_events m_variables m_relations m_numbers m_nexts m_sizes m_actions m_fired m_state m_time m_values m_runs m_dues m_emitted m_output m_ignored m_isCompiled m_classes m_numbersOf m_offsets m_useds m_tableSize m_owners x1 m_areApart  hg5) (cwV 0 hts gX4_make_X4_takeApart rfl rfl rfl (by decide +kernel) ⟨Nat.le_of_ble_eq_true rfl, Nat.le_of_ble_eq_true rfl⟩) 0 4 rfl rfl hK hP hD hS hA rfl hl.1 rfl (Nat.le_of_ble_eq_true rfl) dX4_make_5 ⟨Nat.le_of_ble_eq_true rfl, Nat.le_of_ble_eq_true rfl⟩ (fun H locs hP hD hS => ?_)
  have hP : va_P D vwCl (MW bd cb m_thrown m_states m_timerEvents m_transitions m_froms m_events m_variables m_relations m_numbers m_nexts m_sizes m_actions m_fired m_state m_time m_values m_runs m_dues m_emitted m_output m_ignored m_isCompiled m_classes m_numbersOf m_offsets m_useds m_tableSize m_owners x1 x5) H := hP
  have hD : va_D A (MW bd cb m_thrown m_states m_timerEvents m_transitions m_froms m_events m_variables m_relations m_numbers m_nexts m_sizes m_actions m_fired m_state m_time m_values m_runs m_dues m_emitted m_output m_ignored m_isCompiled m_classes m_numbersOf m_offsets m_useds m_tableSize m_owners x1 x5) := hD
  refine lv_aload_n hx hb dX4_make_8 rfl (lv_at hl 0 rfl) ?_
  refine lv_iconst (v := (0 : Int32)) hx hb dX4_make_9 (by decide) ?_
  refine va_put (D := D) (ci := 4) (v := .int (0 : Int32)) (ty := .int) (C := RX4) (T := TX4) (N := 30) hx hb hts hiX4 tyX4 tyX4_ok nmX4 hown hK hP hD hS 0 rfl rfl 22 (by decide) f172 (fun _ h9 => h9) rfl (by decide +kernel) rfl rfl (Nat.le_of_ble_eq_true rfl) dX4_make_10 (fun H locs hP hD hS => ?_)
  have hP : va_P D vwCl (MW bd cb m_thrown m_states m_timerEvents m_transitions m_froms m_events m_variables m_relations m_numbers m_nexts m_sizes m_actions m_fired m_state m_time m_values m_runs m_dues m_emitted m_output m_ignored m_isCompiled (0 : Int32) m_numbersOf m_offsets m_useds m_tableSize m_owners x1 x5) H := hP
  have hD : va_D A (MW bd cb m_thrown m_states m_timerEvents m_transitions m_froms m_events m_variables m_relations m_numbers m_nexts m_sizes m_actions m_fired m_state m_time m_values m_runs m_dues m_emitted m_output m_ignored m_isCompiled (0 : Int32) m_numbersOf m_offsets m_useds m_tableSize m_owners x1 x5) := hD
  refine lv_bipush (v := (12 : Int32)) hx hb dX4_make_13 (by decide) ?_
  refine va_newa (atype := .int) (ty := .int) (N' := 12) (a0 := (12, .inl (fun _ => 0))) hx hb ar rfl hK hP hD hS hA (fun _ => rfl) (by decide) (by decide) (Nat.le_of_ble_eq_true rfl) (Nat.le_of_ble_eq_true rfl) (Nat.le_of_ble_eq_true rfl) dX4_make_15 (fun xq15 xc15 H hK hP hD hS => ?_)
  have hP : va_P D vwCl (MW bd cb m_thrown m_states m_timerEvents m_transitions m_froms m_events m_variables m_relations m_numbers m_nexts m_sizes m_actions m_fired m_state m_time m_values m_runs m_dues m_emitted m_output m_ignored m_isCompiled (0 : Int32) m_numbersOf m_offsets m_useds m_tableSize m_owners x1 x5 ++ ([(xq15, .inl (xc15, 12, .inl (fun _ => (0 : Int32))))])) H := hP
  have hD : va_D A (MW bd cb m_thrown m_states m_timerEvents m_transitions m_froms m_events m_variables m_relations m_numbers m_nexts m_sizes m_actions m_fired m_state m_time m_values m_runs m_dues m_emitted m_output m_ignored m_isCompiled (0 : Int32) m_numbersOf m_offsets m_useds m_tableSize m_owners x1 x5 ++ ([(xq15, .inl (xc15, 12, .inl (fun _ => (0 : Int32))))])) := hD
  have hK : va_K D vwCl (MT cb ++ ([(xc15, .int)])) s := hK
  refine lv_astore_n (lv' := [(1, .ref xq15), (0, .ref (bd 0))]) hx hb dX4_make_17 rfl hl (by decide) rfl (fun ls hl => ?_)
  refine lv_iconst (v := (0 : Int32)) hx hb dX4_make_18 (by decide) ?_
  refine lv_istore_n (lv' := [(2, .int (0 : Int32)), (1, .ref xq15), (0, .ref (bd 0))]) hx hb dX4_make_19 rfl hl (by decide) rfl (fun ls hl => ?_)
  exact L20 fu xq15 xc15 hK (0 : Int32) m_numbersOf m_useds x1 x5 (fun _ => (0 : Int32)) (0 : Int32) H locs ls hP hD hS (lv_sub hl [2, 1, 0] rfl) hf
abbrev rmX4_compile : Room := { frames := 4, cells := 1, slots := 12, locals := 97 }
set_option maxHeartbeats 4000000 in
set_option maxRecDepth 100000 in
theorem c_X4_compile {l : Launch} {D : va_G} {bd : Nat → Nat} {cb : Nat → ClassId} (fu : Nat) (m_thrown m_states : Int32) (m_timerEvents : Nat → Int32) (m_transitions : Int32) (m_froms m_events m_variables m_relations m_numbers m_nexts m_sizes m_actions m_fired : Nat → Int32) (m_state : Int32) (m_time : Int64) (m_values m_runs : Nat → Int32) (m_dues : Nat → Int64) (m_emitted : Int32) (m_output : Nat → Int32) (m_ignored m_isCompiled m_classes : Int32) (m_numbersOf m_offsets m_useds : Nat → Int32) (m_tableSize : Int32) (m_owners m_isReached m_areApart : Nat → Int32) {o : Int32 × Int32 × Int32 × Int32 × (Nat → Int32) × (Nat → Int32) × (Nat → Int32) × Int32 × (Nat → Int32) × (Nat → Int32) × (Nat → Int32)} (hf : X4_compile fu m_thrown m_states m_transitions m_froms m_events m_variables m_relations m_numbers m_nexts m_sizes m_actions m_isCompiled m_classes m_numbersOf m_offsets m_useds m_tableSize m_owners m_isReached m_areApart = some o) : Ci l yX4_compile wsX4_compile rmX4_compile D (MT cb) (MW bd cb m_thrown m_states m_timerEvents m_transitions m_froms m_events m_variables m_relations m_numbers m_nexts m_sizes m_actions m_fired m_state m_time m_values m_runs m_dues m_emitted m_output m_ignored m_isCompiled m_classes m_numbersOf m_offsets m_useds m_tableSize m_owners m_isReached m_areApart) [.ref (bd 0)] o.1 (MW bd cb o.2.1 m_states m_timerEvents m_transitions m_froms m_events m_variables m_relations m_numbers m_nexts m_sizes m_actions m_fired m_state m_time m_values m_runs m_dues m_emitted m_output m_ignored o.2.2.1 o.2.2.2.1 o.2.2.2.2.1 o.2.2.2.2.2.1 o.2.2.2.2.2.2.1 o.2.2.2.2.2.2.2.1 o.2.2.2.2.2.2.2.2.1 o.2.2.2.2.2.2.2.2.2.1 o.2.2.2.2.2.2.2.2.2.2) := by
  intro sz
  refine pw_entry (Qc := fun A => pw_Qi D (MT cb) (MW bd cb o.2.1 m_states m_timerEvents m_transitions m_froms m_events m_variables m_relations m_numbers m_nexts m_sizes m_actions m_fired m_state m_time m_values m_runs m_dues m_emitted m_output m_ignored o.2.2.1 o.2.2.2.1 o.2.2.2.2.1 o.2.2.2.2.2.1 o.2.2.2.2.2.2.1 o.2.2.2.2.2.2.2.1 o.2.2.2.2.2.2.2.2.1 o.2.2.2.2.2.2.2.2.2.1 o.2.2.2.2.2.2.2.2.2.2) A o.1) (cc := cX4_compile) (maxL := 1) (ret := (some .int)) (by decide) rfl (Nat.le_of_ble_eq_true rfl) ?_ sz
  intro p e s m args below meth c A ls Z H locs hx hb hr hlocks hts hown hml hnm hK hP hD hS hA hl hZ
  have hown : s.vm.findClass RX4 = some m.cls := hown
  have hiX4 : ∀ w ∈ u_ws RX4 TX4 30, w ∈ wsX4_compile := by decide +kernel
  have f172 := hts (.fieldLink RX4 172 "ProtocolMachineModel" "classes" "I") (by decide +kernel)
  have f76 := hts (.fieldLink RX4 76 "ProtocolMachineModel" "thrown" "I") (by decide +kernel)
  have f90 := hts (.fieldLink RX4 90 "ProtocolMachineModel" "isCompiled" "Z") (by decide +kernel)
  have hl : lv_has ls 1 [(0, .ref (bd 0))] := hl
  unfold X4_compile at hf
  refine lv_aload_n hx hb dX4_compile_0 rfl (lv_at hl 0 rfl) ?_
  refine lv_iconst (v := (0 : Int32)) hx hb dX4_compile_1 (by decide) ?_
  refine va_put (D := D) (ci := 4) (v := .int (0 : Int32)) (ty := .int) (C := RX4) (T := TX4) (N := 30) hx hb hts hiX4 tyX4 tyX4_ok nmX4 hown hK hP hD hS 0 rfl rfl 0 (by decide) f76 (fun _ h9 => h9) rfl (by decide +kernel) rfl rfl (Nat.le_of_ble_eq_true rfl) dX4_compile_2 (fun H locs hP hD hS => ?_)
  have hP : va_P D vwCl (MW bd cb (0 : Int32) m_states m_timerEvents m_transitions m_froms m_events m_variables m_relations m_numbers m_nexts m_sizes m_actions m_fired m_state m_time m_values m_runs m_dues m_emitted m_output m_ignored m_isCompiled m_classes m_numbersOf m_offsets m_useds m_tableSize m_owners m_isReached m_areApart) H := hP
  have hD : va_D A (MW bd cb (0 : Int32) m_states m_timerEvents m_transitions m_froms m_events m_variables m_relations m_numbers m_nexts m_sizes m_actions m_fired m_state m_time m_values m_runs m_dues m_emitted m_output m_ignored m_isCompiled m_classes m_numbersOf m_offsets m_useds m_tableSize m_owners m_isReached m_areApart) := hD
  refine lv_aload_n hx hb dX4_compile_5 rfl (lv_at hl 0 rfl) ?_
  refine va_get (D := D) (ci := 4) (v := .int m_isCompiled) (C := RX4) (T := TX4) (N := 30) hx hb hts hiX4 hown hK hP 0 rfl rfl 21 (by decide) f90 (fun _ h9 => h9) rfl dX4_compile_6 ?_
  refine lv_if_ne (tgt := 16) hx hb dX4_compile_9 (by decide) (fun hc => ?_) (fun hc => ?_)
  · have hf := pr_f hf hc
    refine lv_aload_n hx hb dX4_compile_16 rfl (lv_at hl 0 rfl) ?_
    refine va_get (D := D) (ci := 4) (v := .int m_classes) (C := RX4) (T := TX4) (N := 30) hx hb hts hiX4 hown hK hP 0 rfl rfl 22 (by decide) f172 (fun _ h9 => h9) rfl dX4_compile_17 ?_
    obtain rfl := Option.some.inj hf
    subst hZ
    exact pw_ri hx hb hr hlocks hK hP hD hS (Nat.le_of_ble_eq_true rfl) (Nat.le_of_ble_eq_true rfl) dX4_compile_20
  · have hf := pr_t hf hc
    refine lv_aload_n hx hb dX4_compile_12 rfl (lv_at hl 0 rfl) ?_
    obtain ⟨x13, hg13, hf⟩ := pr_b hf
    refine pw_cVvW (b := bd 0) (As := []) (rest := []) ⟨hx, hb, hml, hown, hts⟩ (c_X4_make fu (D := D) (0 : Int32) m_states m_timerEvents m_transitions m_froms m_events m_variables m_relations m_numbers m_nexts m_sizes m_actions m_fired m_state m_time m_values m_runs m_dues m_emitted m_output m_ignored m_isCompiled m_classes m_numbersOf m_offsets m_useds m_tableSize m_owners m_isReached m_areApart  hg13) (cwV 0 hts gX4_compile_X4_make rfl rfl rfl (by decide +kernel) ⟨Nat.le_of_ble_eq_true rfl, Nat.le_of_ble_eq_true rfl⟩) 0 4 rfl rfl hK hP hD hS hA rfl hl.1 rfl (Nat.le_of_ble_eq_true rfl) dX4_compile_13 ⟨Nat.le_of_ble_eq_true rfl, Nat.le_of_ble_eq_true rfl⟩ (fun H locs hP hD hS => ?_)
    have hP : va_P D vwCl (MW bd cb (0 : Int32) m_states m_timerEvents m_transitions m_froms m_events m_variables m_relations m_numbers m_nexts m_sizes m_actions m_fired m_state m_time m_values m_runs m_dues m_emitted m_output m_ignored x13.1 x13.2.1 x13.2.2.1 x13.2.2.2.1 x13.2.2.2.2.1 x13.2.2.2.2.2.1 x13.2.2.2.2.2.2.1 x13.2.2.2.2.2.2.2.1 x13.2.2.2.2.2.2.2.2) H := hP
    have hD : va_D A (MW bd cb (0 : Int32) m_states m_timerEvents m_transitions m_froms m_events m_variables m_relations m_numbers m_nexts m_sizes m_actions m_fired m_state m_time m_values m_runs m_dues m_emitted m_output m_ignored x13.1 x13.2.1 x13.2.2.1 x13.2.2.2.1 x13.2.2.2.2.1 x13.2.2.2.2.2.1 x13.2.2.2.2.2.2.1 x13.2.2.2.2.2.2.2.1 x13.2.2.2.2.2.2.2.2) := hD
    refine lv_aload_n hx hb dX4_compile_16 rfl (lv_at hl 0 rfl) ?_
    refine va_get (D := D) (ci := 4) (v := .int x13.2.1) (C := RX4) (T := TX4) (N := 30) hx hb hts hiX4 hown hK hP 0 rfl rfl 22 (by decide) f172 (fun _ h9 => h9) rfl dX4_compile_17 ?_
    obtain rfl := Option.some.inj hf
    subst hZ
    exact pw_ri hx hb hr hlocks hK hP hD hS (Nat.le_of_ble_eq_true rfl) (Nat.le_of_ble_eq_true rfl) dX4_compile_20
abbrev rmX4_isCompiled : Room := { frames := 0, cells := 0, slots := 0, locals := 0 }
set_option maxHeartbeats 4000000 in
set_option maxRecDepth 100000 in
theorem c_X4_isCompiled {l : Launch} {D : va_G} {bd : Nat → Nat} {cb : Nat → ClassId} (m_thrown m_states : Int32) (m_timerEvents : Nat → Int32) (m_transitions : Int32) (m_froms m_events m_variables m_relations m_numbers m_nexts m_sizes m_actions m_fired : Nat → Int32) (m_state : Int32) (m_time : Int64) (m_values m_runs : Nat → Int32) (m_dues : Nat → Int64) (m_emitted : Int32) (m_output : Nat → Int32) (m_ignored m_isCompiled m_classes : Int32) (m_numbersOf m_offsets m_useds : Nat → Int32) (m_tableSize : Int32) (m_owners m_isReached m_areApart : Nat → Int32) {o : Int32 × Int32} (hf : X4_isCompiled m_thrown m_isCompiled = some o) : Ci l yX4_isCompiled wsX4_isCompiled rmX4_isCompiled D (MT cb) (MW bd cb m_thrown m_states m_timerEvents m_transitions m_froms m_events m_variables m_relations m_numbers m_nexts m_sizes m_actions m_fired m_state m_time m_values m_runs m_dues m_emitted m_output m_ignored m_isCompiled m_classes m_numbersOf m_offsets m_useds m_tableSize m_owners m_isReached m_areApart) [.ref (bd 0)] o.1 (MW bd cb o.2 m_states m_timerEvents m_transitions m_froms m_events m_variables m_relations m_numbers m_nexts m_sizes m_actions m_fired m_state m_time m_values m_runs m_dues m_emitted m_output m_ignored m_isCompiled m_classes m_numbersOf m_offsets m_useds m_tableSize m_owners m_isReached m_areApart) := by
  intro sz
  refine pw_entry (Qc := fun A => pw_Qi D (MT cb) (MW bd cb o.2 m_states m_timerEvents m_transitions m_froms m_events m_variables m_relations m_numbers m_nexts m_sizes m_actions m_fired m_state m_time m_values m_runs m_dues m_emitted m_output m_ignored m_isCompiled m_classes m_numbersOf m_offsets m_useds m_tableSize m_owners m_isReached m_areApart) A o.1) (cc := cX4_isCompiled) (maxL := 1) (ret := (some .boolean)) (by decide) rfl (Nat.le_of_ble_eq_true rfl) ?_ sz
  intro p e s m args below meth c A ls Z H locs hx hb hr hlocks hts hown hml hnm hK hP hD hS hA hl hZ
  have hown : s.vm.findClass RX4 = some m.cls := hown
  have hiX4 : ∀ w ∈ u_ws RX4 TX4 30, w ∈ wsX4_isCompiled := by decide +kernel
  have f76 := hts (.fieldLink RX4 76 "ProtocolMachineModel" "thrown" "I") (by decide +kernel)
  have f90 := hts (.fieldLink RX4 90 "ProtocolMachineModel" "isCompiled" "Z") (by decide +kernel)
  have hl : lv_has ls 1 [(0, .ref (bd 0))] := hl
  unfold X4_isCompiled at hf
  refine lv_aload_n hx hb dX4_isCompiled_0 rfl (lv_at hl 0 rfl) ?_
  refine lv_iconst (v := (0 : Int32)) hx hb dX4_isCompiled_1 (by decide) ?_
  refine va_put (D := D) (ci := 4) (v := .int (0 : Int32)) (ty := .int) (C := RX4) (T := TX4) (N := 30) hx hb hts hiX4 tyX4 tyX4_ok nmX4 hown hK hP hD hS 0 rfl rfl 0 (by decide) f76 (fun _ h9 => h9) rfl (by decide +kernel) rfl rfl (Nat.le_of_ble_eq_true rfl) dX4_isCompiled_2 (fun H locs hP hD hS => ?_)
  have hP : va_P D vwCl (MW bd cb (0 : Int32) m_states m_timerEvents m_transitions m_froms m_events m_variables m_relations m_numbers m_nexts m_sizes m_actions m_fired m_state m_time m_values m_runs m_dues m_emitted m_output m_ignored m_isCompiled m_classes m_numbersOf m_offsets m_useds m_tableSize m_owners m_isReached m_areApart) H := hP
  have hD : va_D A (MW bd cb (0 : Int32) m_states m_timerEvents m_transitions m_froms m_events m_variables m_relations m_numbers m_nexts m_sizes m_actions m_fired m_state m_time m_values m_runs m_dues m_emitted m_output m_ignored m_isCompiled m_classes m_numbersOf m_offsets m_useds m_tableSize m_owners m_isReached m_areApart) := hD
  refine lv_aload_n hx hb dX4_isCompiled_5 rfl (lv_at hl 0 rfl) ?_
  refine va_get (D := D) (ci := 4) (v := .int m_isCompiled) (C := RX4) (T := TX4) (N := 30) hx hb hts hiX4 hown hK hP 0 rfl rfl 21 (by decide) f90 (fun _ h9 => h9) rfl dX4_isCompiled_6 ?_
  obtain ⟨hn, hf⟩ := pr_nz hf
  obtain rfl := Option.some.inj hf
  subst hZ
  exact pw_rz hx hb hr hlocks hn hK hP hD hS (Nat.le_of_ble_eq_true rfl) (Nat.le_of_ble_eq_true rfl) dX4_isCompiled_9
abbrev rmX4_asks : Room := { frames := 0, cells := 0, slots := 0, locals := 0 }
set_option maxHeartbeats 4000000 in
set_option maxRecDepth 100000 in
theorem c_X4_asks {l : Launch} {D : va_G} {bd : Nat → Nat} {cb : Nat → ClassId} (m_thrown m_states : Int32) (m_timerEvents : Nat → Int32) (m_transitions : Int32) (m_froms m_events m_variables m_relations m_numbers m_nexts m_sizes m_actions m_fired : Nat → Int32) (m_state : Int32) (m_time : Int64) (m_values m_runs : Nat → Int32) (m_dues : Nat → Int64) (m_emitted : Int32) (m_output : Nat → Int32) (m_ignored m_isCompiled m_classes : Int32) (m_numbersOf m_offsets m_useds : Nat → Int32) (m_tableSize : Int32) (m_owners m_isReached m_areApart : Nat → Int32) (v1 v2 : Int32) {o : Int32 × Int32} (hf : X4_asks m_thrown m_isCompiled v1 v2 = some o) : Ci l yX4_asks wsX4_asks rmX4_asks D (MT cb) (MW bd cb m_thrown m_states m_timerEvents m_transitions m_froms m_events m_variables m_relations m_numbers m_nexts m_sizes m_actions m_fired m_state m_time m_values m_runs m_dues m_emitted m_output m_ignored m_isCompiled m_classes m_numbersOf m_offsets m_useds m_tableSize m_owners m_isReached m_areApart) [.ref (bd 0), .int v1, .int v2] o.1 (MW bd cb o.2 m_states m_timerEvents m_transitions m_froms m_events m_variables m_relations m_numbers m_nexts m_sizes m_actions m_fired m_state m_time m_values m_runs m_dues m_emitted m_output m_ignored m_isCompiled m_classes m_numbersOf m_offsets m_useds m_tableSize m_owners m_isReached m_areApart) := by
  intro sz
  refine pw_entry (Qc := fun A => pw_Qi D (MT cb) (MW bd cb o.2 m_states m_timerEvents m_transitions m_froms m_events m_variables m_relations m_numbers m_nexts m_sizes m_actions m_fired m_state m_time m_values m_runs m_dues m_emitted m_output m_ignored m_isCompiled m_classes m_numbersOf m_offsets m_useds m_tableSize m_owners m_isReached m_areApart) A o.1) (cc := cX4_asks) (maxL := 3) (ret := (some .boolean)) (by decide) rfl (Nat.le_of_ble_eq_true rfl) ?_ sz
  intro p e s m args below meth c A ls Z H locs hx hb hr hlocks hts hown hml hnm hK hP hD hS hA hl hZ
  have hown : s.vm.findClass RX4 = some m.cls := hown
  have hiX4 : ∀ w ∈ u_ws RX4 TX4 30, w ∈ wsX4_asks := by decide +kernel
  have f76 := hts (.fieldLink RX4 76 "ProtocolMachineModel" "thrown" "I") (by decide +kernel)
  have f90 := hts (.fieldLink RX4 90 "ProtocolMachineModel" "isCompiled" "Z") (by decide +kernel)
  have hl : lv_has ls 3 [(0, .ref (bd 0)), (1, .int v1), (2, .int v2)] := hl
  have B26 : ∀ (s1 : Int32) (H : Heap) (locs : List Loc) (ls : Array Slot), va_P D vwCl (MW bd cb m_thrown m_states m_timerEvents m_transitions m_froms m_events m_variables m_relations m_numbers m_nexts m_sizes m_actions m_fired m_state m_time m_values m_runs m_dues m_emitted m_output m_ignored m_isCompiled m_classes m_numbersOf m_offsets m_useds m_tableSize m_owners m_isReached m_areApart) H → va_D A (MW bd cb m_thrown m_states m_timerEvents m_transitions m_froms m_events m_variables m_relations m_numbers m_nexts m_sizes m_actions m_fired m_state m_time m_values m_runs m_dues m_emitted m_output m_ignored m_isCompiled m_classes m_numbersOf m_offsets m_useds m_tableSize m_owners m_isReached m_areApart) → va_S A s.heap H locs → lv_has ls 3 [(0, .ref (bd 0))] → X4_asks_B26 s1 = some o → W p l e rmX4_asks s m args below meth c H locs 0 0 Z (F0 m 26 ls [.int s1, .ref (bd 0)]) := by
    intro s1 H locs ls hP hD hS hl hf
    unfold X4_asks_B26 at hf
    refine va_put (D := D) (ci := 4) (v := .int s1) (ty := .int) (C := RX4) (T := TX4) (N := 30) hx hb hts hiX4 tyX4 tyX4_ok nmX4 hown hK hP hD hS 0 rfl rfl 0 (by decide) f76 (fun _ h9 => h9) rfl (by decide +kernel) rfl rfl (Nat.le_of_ble_eq_true rfl) dX4_asks_26 (fun H locs hP hD hS => ?_)
    have hP : va_P D vwCl (MW bd cb s1 m_states m_timerEvents m_transitions m_froms m_events m_variables m_relations m_numbers m_nexts m_sizes m_actions m_fired m_state m_time m_values m_runs m_dues m_emitted m_output m_ignored m_isCompiled m_classes m_numbersOf m_offsets m_useds m_tableSize m_owners m_isReached m_areApart) H := hP
    have hD : va_D A (MW bd cb s1 m_states m_timerEvents m_transitions m_froms m_events m_variables m_relations m_numbers m_nexts m_sizes m_actions m_fired m_state m_time m_values m_runs m_dues m_emitted m_output m_ignored m_isCompiled m_classes m_numbersOf m_offsets m_useds m_tableSize m_owners m_isReached m_areApart) := hD
    refine lv_aload_n hx hb dX4_asks_29 rfl (lv_at hl 0 rfl) ?_
    refine va_get (D := D) (ci := 4) (v := .int s1) (C := RX4) (T := TX4) (N := 30) hx hb hts hiX4 hown hK hP 0 rfl rfl 0 (by decide) f76 (fun _ h9 => h9) rfl dX4_asks_30 ?_
    refine lv_if_ne (tgt := 40) hx hb dX4_asks_33 (by decide) (fun hc => ?_) (fun hc => ?_)
    · have hf := pr_f hf hc
      refine lv_iconst (v := (0 : Int32)) hx hb dX4_asks_40 (by decide) ?_
      obtain rfl := Option.some.inj hf
      subst hZ
      exact pw_rz hx hb hr hlocks (Or.inl rfl) hK hP hD hS (Nat.le_of_ble_eq_true rfl) (Nat.le_of_ble_eq_true rfl) dX4_asks_41
    · have hf := pr_t hf hc
      refine lv_iconst (v := (1 : Int32)) hx hb dX4_asks_36 (by decide) ?_
      refine lv_goto (tgt := 41) hx hb dX4_asks_37 (by decide) ?_
      obtain rfl := Option.some.inj hf
      subst hZ
      exact pw_rz hx hb hr hlocks (Or.inr rfl) hK hP hD hS (Nat.le_of_ble_eq_true rfl) (Nat.le_of_ble_eq_true rfl) dX4_asks_41
  unfold X4_asks at hf
  refine lv_aload_n hx hb dX4_asks_0 rfl (lv_at hl 0 rfl) ?_
  refine lv_aload_n hx hb dX4_asks_1 rfl (lv_at hl 0 rfl) ?_
  refine va_get (D := D) (ci := 4) (v := .int m_isCompiled) (C := RX4) (T := TX4) (N := 30) hx hb hts hiX4 hown hK hP 0 rfl rfl 21 (by decide) f90 (fun _ h9 => h9) rfl dX4_asks_2 ?_
  refine lv_if_ne (tgt := 12) hx hb dX4_asks_5 (by decide) (fun hc => ?_) (fun hc => ?_)
  · have hf := pr_f hf hc
    refine lv_iload_n hx hb dX4_asks_12 rfl (lv_at hl 1 rfl) ?_
    refine lv_if_lt (tgt := 21) hx hb dX4_asks_13 (by decide) (fun hc => ?_) (fun hc => ?_)
    · have hf := pr_t hf hc
      refine lv_iconst (v := (2 : Int32)) hx hb dX4_asks_21 (by decide) ?_
      refine lv_goto (tgt := 26) hx hb dX4_asks_22 (by decide) ?_
      exact B26 (2 : Int32) H locs ls hP hD hS (lv_sub hl [0] rfl) hf
    · have hf := pr_f hf hc
      refine lv_iload_n hx hb dX4_asks_16 rfl (lv_at hl 1 rfl) ?_
      refine lv_iload_n hx hb dX4_asks_17 rfl (lv_at hl 2 rfl) ?_
      refine lv_icmp_lt (tgt := 25) hx hb dX4_asks_18 (by decide) (fun hc => ?_) (fun hc => ?_)
      · have hf := pr_t hf hc
        refine lv_iconst (v := (0 : Int32)) hx hb dX4_asks_25 (by decide) ?_
        exact B26 (0 : Int32) H locs ls hP hD hS (lv_sub hl [0] rfl) hf
      · have hf := pr_f hf hc
        refine lv_iconst (v := (2 : Int32)) hx hb dX4_asks_21 (by decide) ?_
        refine lv_goto (tgt := 26) hx hb dX4_asks_22 (by decide) ?_
        exact B26 (2 : Int32) H locs ls hP hD hS (lv_sub hl [0] rfl) hf
  · have hf := pr_t hf hc
    refine lv_iconst (v := (1 : Int32)) hx hb dX4_asks_8 (by decide) ?_
    refine lv_goto (tgt := 26) hx hb dX4_asks_9 (by decide) ?_
    exact B26 (1 : Int32) H locs ls hP hD hS (lv_sub hl [0] rfl) hf
abbrev rmX4_classOf : Room := { frames := 1, cells := 0, slots := 0, locals := 22 }
set_option maxHeartbeats 4000000 in
set_option maxRecDepth 100000 in
theorem c_X4_classOf {l : Launch} {D : va_G} {bd : Nat → Nat} {cb : Nat → ClassId} (m_thrown m_states : Int32) (m_timerEvents : Nat → Int32) (m_transitions : Int32) (m_froms m_events m_variables m_relations m_numbers m_nexts m_sizes m_actions m_fired : Nat → Int32) (m_state : Int32) (m_time : Int64) (m_values m_runs : Nat → Int32) (m_dues : Nat → Int64) (m_emitted : Int32) (m_output : Nat → Int32) (m_ignored m_isCompiled m_classes : Int32) (m_numbersOf m_offsets m_useds : Nat → Int32) (m_tableSize : Int32) (m_owners m_isReached m_areApart : Nat → Int32) (v1 : Int32) {o : Int32 × Int32} (hf : X4_classOf m_thrown m_states m_isCompiled m_numbersOf v1 = some o) : Ci l yX4_classOf wsX4_classOf rmX4_classOf D (MT cb) (MW bd cb m_thrown m_states m_timerEvents m_transitions m_froms m_events m_variables m_relations m_numbers m_nexts m_sizes m_actions m_fired m_state m_time m_values m_runs m_dues m_emitted m_output m_ignored m_isCompiled m_classes m_numbersOf m_offsets m_useds m_tableSize m_owners m_isReached m_areApart) [.ref (bd 0), .int v1] o.1 (MW bd cb o.2 m_states m_timerEvents m_transitions m_froms m_events m_variables m_relations m_numbers m_nexts m_sizes m_actions m_fired m_state m_time m_values m_runs m_dues m_emitted m_output m_ignored m_isCompiled m_classes m_numbersOf m_offsets m_useds m_tableSize m_owners m_isReached m_areApart) := by
  intro sz
  refine pw_entry (Qc := fun A => pw_Qi D (MT cb) (MW bd cb o.2 m_states m_timerEvents m_transitions m_froms m_events m_variables m_relations m_numbers m_nexts m_sizes m_actions m_fired m_state m_time m_values m_runs m_dues m_emitted m_output m_ignored m_isCompiled m_classes m_numbersOf m_offsets m_useds m_tableSize m_owners m_isReached m_areApart) A o.1) (cc := cX4_classOf) (maxL := 2) (ret := (some .int)) (by decide) rfl (Nat.le_of_ble_eq_true rfl) ?_ sz
  intro p e s m args below meth c A ls Z H locs hx hb hr hlocks hts hown hml hnm hK hP hD hS hA hl hZ
  have hown : s.vm.findClass RX4 = some m.cls := hown
  have hiX4 : ∀ w ∈ u_ws RX4 TX4 30, w ∈ wsX4_classOf := by decide +kernel
  have f58 := hts (.fieldLink RX4 58 "ProtocolMachineModel" "numbersOf" "[I") (by decide +kernel)
  have f7 := hts (.fieldLink RX4 7 "ProtocolMachineModel" "states" "I") (by decide +kernel)
  have hl : lv_has ls 2 [(0, .ref (bd 0)), (1, .int v1)] := hl
  unfold X4_classOf at hf
  refine lv_aload_n hx hb dX4_classOf_0 rfl (lv_at hl 0 rfl) ?_
  refine lv_iload_n hx hb dX4_classOf_1 rfl (lv_at hl 1 rfl) ?_
  refine lv_aload_n hx hb dX4_classOf_2 rfl (lv_at hl 0 rfl) ?_
  refine va_get (D := D) (ci := 4) (v := .int m_states) (C := RX4) (T := TX4) (N := 30) hx hb hts hiX4 hown hK hP 0 rfl rfl 1 (by decide) f7 (fun _ h9 => h9) rfl dX4_classOf_3 ?_
  obtain ⟨x6, hg6, hf⟩ := pr_b hf
  refine pw_cViW (b := bd 0) (As := [.int v1, .int m_states]) (rest := []) ⟨hx, hb, hml, hown, hts⟩ (c_X4_asks (D := D) m_thrown m_states m_timerEvents m_transitions m_froms m_events m_variables m_relations m_numbers m_nexts m_sizes m_actions m_fired m_state m_time m_values m_runs m_dues m_emitted m_output m_ignored m_isCompiled m_classes m_numbersOf m_offsets m_useds m_tableSize m_owners m_isReached m_areApart v1 m_states hg6) (cwV 2 hts gX4_classOf_X4_asks rfl rfl rfl (by decide +kernel) ⟨Nat.le_of_ble_eq_true rfl, Nat.le_of_ble_eq_true rfl⟩) 0 4 rfl rfl hK hP hD hS hA rfl hl.1 rfl (Nat.le_of_ble_eq_true rfl) dX4_classOf_6 ⟨Nat.le_of_ble_eq_true rfl, Nat.le_of_ble_eq_true rfl⟩ (fun H locs hP hD hS => ?_)
  have hP : va_P D vwCl (MW bd cb x6.2 m_states m_timerEvents m_transitions m_froms m_events m_variables m_relations m_numbers m_nexts m_sizes m_actions m_fired m_state m_time m_values m_runs m_dues m_emitted m_output m_ignored m_isCompiled m_classes m_numbersOf m_offsets m_useds m_tableSize m_owners m_isReached m_areApart) H := hP
  have hD : va_D A (MW bd cb x6.2 m_states m_timerEvents m_transitions m_froms m_events m_variables m_relations m_numbers m_nexts m_sizes m_actions m_fired m_state m_time m_values m_runs m_dues m_emitted m_output m_ignored m_isCompiled m_classes m_numbersOf m_offsets m_useds m_tableSize m_owners m_isReached m_areApart) := hD
  refine lv_if_eq (tgt := 21) hx hb dX4_classOf_9 (by decide) (fun hc => ?_) (fun hc => ?_)
  · have hf := pr_t hf hc
    refine lv_iconst (v := (0 : Int32)) hx hb dX4_classOf_21 (by decide) ?_
    obtain rfl := Option.some.inj hf
    subst hZ
    exact pw_ri hx hb hr hlocks hK hP hD hS (Nat.le_of_ble_eq_true rfl) (Nat.le_of_ble_eq_true rfl) dX4_classOf_22
  · have hf := pr_f hf hc
    refine lv_aload_n hx hb dX4_classOf_12 rfl (lv_at hl 0 rfl) ?_
    refine va_get (D := D) (ci := 4) (v := .ref (bd 15)) (C := RX4) (T := TX4) (N := 30) hx hb hts hiX4 hown hK hP 0 rfl rfl 23 (by decide) f58 (fun _ h9 => h9) rfl dX4_classOf_13 ?_
    refine lv_iload_n hx hb dX4_classOf_16 rfl (lv_at hl 1 rfl) ?_
    obtain ⟨hi17, hf⟩ := pr_in hf
    refine va_iald hx hb hK hP 15 14 rfl rfl hi17 dX4_classOf_17 ?_
    refine lv_goto (tgt := 22) hx hb dX4_classOf_18 (by decide) ?_
    obtain rfl := Option.some.inj hf
    subst hZ
    exact pw_ri hx hb hr hlocks hK hP hD hS (Nat.le_of_ble_eq_true rfl) (Nat.le_of_ble_eq_true rfl) dX4_classOf_22
abbrev rmX4_offset : Room := { frames := 1, cells := 0, slots := 0, locals := 22 }
set_option maxHeartbeats 4000000 in
set_option maxRecDepth 100000 in
theorem c_X4_offset {l : Launch} {D : va_G} {bd : Nat → Nat} {cb : Nat → ClassId} (m_thrown m_states : Int32) (m_timerEvents : Nat → Int32) (m_transitions : Int32) (m_froms m_events m_variables m_relations m_numbers m_nexts m_sizes m_actions m_fired : Nat → Int32) (m_state : Int32) (m_time : Int64) (m_values m_runs : Nat → Int32) (m_dues : Nat → Int64) (m_emitted : Int32) (m_output : Nat → Int32) (m_ignored m_isCompiled m_classes : Int32) (m_numbersOf m_offsets m_useds : Nat → Int32) (m_tableSize : Int32) (m_owners m_isReached m_areApart : Nat → Int32) (v1 : Int32) {o : Int32 × Int32} (hf : X4_offset m_thrown m_isCompiled m_classes m_offsets v1 = some o) : Ci l yX4_offset wsX4_offset rmX4_offset D (MT cb) (MW bd cb m_thrown m_states m_timerEvents m_transitions m_froms m_events m_variables m_relations m_numbers m_nexts m_sizes m_actions m_fired m_state m_time m_values m_runs m_dues m_emitted m_output m_ignored m_isCompiled m_classes m_numbersOf m_offsets m_useds m_tableSize m_owners m_isReached m_areApart) [.ref (bd 0), .int v1] o.1 (MW bd cb o.2 m_states m_timerEvents m_transitions m_froms m_events m_variables m_relations m_numbers m_nexts m_sizes m_actions m_fired m_state m_time m_values m_runs m_dues m_emitted m_output m_ignored m_isCompiled m_classes m_numbersOf m_offsets m_useds m_tableSize m_owners m_isReached m_areApart) := by
  intro sz
  refine pw_entry (Qc := fun A => pw_Qi D (MT cb) (MW bd cb o.2 m_states m_timerEvents m_transitions m_froms m_events m_variables m_relations m_numbers m_nexts m_sizes m_actions m_fired m_state m_time m_values m_runs m_dues m_emitted m_output m_ignored m_isCompiled m_classes m_numbersOf m_offsets m_useds m_tableSize m_owners m_isReached m_areApart) A o.1) (cc := cX4_offset) (maxL := 2) (ret := (some .int)) (by decide) rfl (Nat.le_of_ble_eq_true rfl) ?_ sz
  intro p e s m args below meth c A ls Z H locs hx hb hr hlocks hts hown hml hnm hK hP hD hS hA hl hZ
  have hown : s.vm.findClass RX4 = some m.cls := hown
  have hiX4 : ∀ w ∈ u_ws RX4 TX4 30, w ∈ wsX4_offset := by decide +kernel
  have f172 := hts (.fieldLink RX4 172 "ProtocolMachineModel" "classes" "I") (by decide +kernel)
  have f61 := hts (.fieldLink RX4 61 "ProtocolMachineModel" "offsets" "[I") (by decide +kernel)
  have hl : lv_has ls 2 [(0, .ref (bd 0)), (1, .int v1)] := hl
  unfold X4_offset at hf
  refine lv_aload_n hx hb dX4_offset_0 rfl (lv_at hl 0 rfl) ?_
  refine lv_iload_n hx hb dX4_offset_1 rfl (lv_at hl 1 rfl) ?_
  refine lv_aload_n hx hb dX4_offset_2 rfl (lv_at hl 0 rfl) ?_
  refine va_get (D := D) (ci := 4) (v := .int m_classes) (C := RX4) (T := TX4) (N := 30) hx hb hts hiX4 hown hK hP 0 rfl rfl 22 (by decide) f172 (fun _ h9 => h9) rfl dX4_offset_3 ?_
  obtain ⟨x6, hg6, hf⟩ := pr_b hf
  refine pw_cViW (b := bd 0) (As := [.int v1, .int m_classes]) (rest := []) ⟨hx, hb, hml, hown, hts⟩ (c_X4_asks (D := D) m_thrown m_states m_timerEvents m_transitions m_froms m_events m_variables m_relations m_numbers m_nexts m_sizes m_actions m_fired m_state m_time m_values m_runs m_dues m_emitted m_output m_ignored m_isCompiled m_classes m_numbersOf m_offsets m_useds m_tableSize m_owners m_isReached m_areApart v1 m_classes hg6) (cwV 2 hts gX4_offset_X4_asks rfl rfl rfl (by decide +kernel) ⟨Nat.le_of_ble_eq_true rfl, Nat.le_of_ble_eq_true rfl⟩) 0 4 rfl rfl hK hP hD hS hA rfl hl.1 rfl (Nat.le_of_ble_eq_true rfl) dX4_offset_6 ⟨Nat.le_of_ble_eq_true rfl, Nat.le_of_ble_eq_true rfl⟩ (fun H locs hP hD hS => ?_)
  have hP : va_P D vwCl (MW bd cb x6.2 m_states m_timerEvents m_transitions m_froms m_events m_variables m_relations m_numbers m_nexts m_sizes m_actions m_fired m_state m_time m_values m_runs m_dues m_emitted m_output m_ignored m_isCompiled m_classes m_numbersOf m_offsets m_useds m_tableSize m_owners m_isReached m_areApart) H := hP
  have hD : va_D A (MW bd cb x6.2 m_states m_timerEvents m_transitions m_froms m_events m_variables m_relations m_numbers m_nexts m_sizes m_actions m_fired m_state m_time m_values m_runs m_dues m_emitted m_output m_ignored m_isCompiled m_classes m_numbersOf m_offsets m_useds m_tableSize m_owners m_isReached m_areApart) := hD
  refine lv_if_eq (tgt := 21) hx hb dX4_offset_9 (by decide) (fun hc => ?_) (fun hc => ?_)
  · have hf := pr_t hf hc
    refine lv_iconst (v := (0 : Int32)) hx hb dX4_offset_21 (by decide) ?_
    obtain rfl := Option.some.inj hf
    subst hZ
    exact pw_ri hx hb hr hlocks hK hP hD hS (Nat.le_of_ble_eq_true rfl) (Nat.le_of_ble_eq_true rfl) dX4_offset_22
  · have hf := pr_f hf hc
    refine lv_aload_n hx hb dX4_offset_12 rfl (lv_at hl 0 rfl) ?_
    refine va_get (D := D) (ci := 4) (v := .ref (bd 16)) (C := RX4) (T := TX4) (N := 30) hx hb hts hiX4 hown hK hP 0 rfl rfl 24 (by decide) f61 (fun _ h9 => h9) rfl dX4_offset_13 ?_
    refine lv_iload_n hx hb dX4_offset_16 rfl (lv_at hl 1 rfl) ?_
    obtain ⟨hi17, hf⟩ := pr_in hf
    refine va_iald hx hb hK hP 16 15 rfl rfl hi17 dX4_offset_17 ?_
    refine lv_goto (tgt := 22) hx hb dX4_offset_18 (by decide) ?_
    obtain rfl := Option.some.inj hf
    subst hZ
    exact pw_ri hx hb hr hlocks hK hP hD hS (Nat.le_of_ble_eq_true rfl) (Nat.le_of_ble_eq_true rfl) dX4_offset_22
abbrev rmX4_used : Room := { frames := 1, cells := 0, slots := 0, locals := 22 }
set_option maxHeartbeats 4000000 in
set_option maxRecDepth 100000 in
theorem c_X4_used {l : Launch} {D : va_G} {bd : Nat → Nat} {cb : Nat → ClassId} (m_thrown m_states : Int32) (m_timerEvents : Nat → Int32) (m_transitions : Int32) (m_froms m_events m_variables m_relations m_numbers m_nexts m_sizes m_actions m_fired : Nat → Int32) (m_state : Int32) (m_time : Int64) (m_values m_runs : Nat → Int32) (m_dues : Nat → Int64) (m_emitted : Int32) (m_output : Nat → Int32) (m_ignored m_isCompiled m_classes : Int32) (m_numbersOf m_offsets m_useds : Nat → Int32) (m_tableSize : Int32) (m_owners m_isReached m_areApart : Nat → Int32) (v1 : Int32) {o : Int32 × Int32} (hf : X4_used m_thrown m_isCompiled m_classes m_useds v1 = some o) : Ci l yX4_used wsX4_used rmX4_used D (MT cb) (MW bd cb m_thrown m_states m_timerEvents m_transitions m_froms m_events m_variables m_relations m_numbers m_nexts m_sizes m_actions m_fired m_state m_time m_values m_runs m_dues m_emitted m_output m_ignored m_isCompiled m_classes m_numbersOf m_offsets m_useds m_tableSize m_owners m_isReached m_areApart) [.ref (bd 0), .int v1] o.1 (MW bd cb o.2 m_states m_timerEvents m_transitions m_froms m_events m_variables m_relations m_numbers m_nexts m_sizes m_actions m_fired m_state m_time m_values m_runs m_dues m_emitted m_output m_ignored m_isCompiled m_classes m_numbersOf m_offsets m_useds m_tableSize m_owners m_isReached m_areApart) := by
  intro sz
  refine pw_entry (Qc := fun A => pw_Qi D (MT cb) (MW bd cb o.2 m_states m_timerEvents m_transitions m_froms m_events m_variables m_relations m_numbers m_nexts m_sizes m_actions m_fired m_state m_time m_values m_runs m_dues m_emitted m_output m_ignored m_isCompiled m_classes m_numbersOf m_offsets m_useds m_tableSize m_owners m_isReached m_areApart) A o.1) (cc := cX4_used) (maxL := 2) (ret := (some .int)) (by decide) rfl (Nat.le_of_ble_eq_true rfl) ?_ sz
  intro p e s m args below meth c A ls Z H locs hx hb hr hlocks hts hown hml hnm hK hP hD hS hA hl hZ
  have hown : s.vm.findClass RX4 = some m.cls := hown
  have hiX4 : ∀ w ∈ u_ws RX4 TX4 30, w ∈ wsX4_used := by decide +kernel
  have f172 := hts (.fieldLink RX4 172 "ProtocolMachineModel" "classes" "I") (by decide +kernel)
  have f64 := hts (.fieldLink RX4 64 "ProtocolMachineModel" "useds" "[I") (by decide +kernel)
  have hl : lv_has ls 2 [(0, .ref (bd 0)), (1, .int v1)] := hl
  unfold X4_used at hf
  refine lv_aload_n hx hb dX4_used_0 rfl (lv_at hl 0 rfl) ?_
  refine lv_iload_n hx hb dX4_used_1 rfl (lv_at hl 1 rfl) ?_
  refine lv_aload_n hx hb dX4_used_2 rfl (lv_at hl 0 rfl) ?_
  refine va_get (D := D) (ci := 4) (v := .int m_classes) (C := RX4) (T := TX4) (N := 30) hx hb hts hiX4 hown hK hP 0 rfl rfl 22 (by decide) f172 (fun _ h9 => h9) rfl dX4_used_3 ?_
  obtain ⟨x6, hg6, hf⟩ := pr_b hf
  refine pw_cViW (b := bd 0) (As := [.int v1, .int m_classes]) (rest := []) ⟨hx, hb, hml, hown, hts⟩ (c_X4_asks (D := D) m_thrown m_states m_timerEvents m_transitions m_froms m_events m_variables m_relations m_numbers m_nexts m_sizes m_actions m_fired m_state m_time m_values m_runs m_dues m_emitted m_output m_ignored m_isCompiled m_classes m_numbersOf m_offsets m_useds m_tableSize m_owners m_isReached m_areApart v1 m_classes hg6) (cwV 2 hts gX4_used_X4_asks rfl rfl rfl (by decide +kernel) ⟨Nat.le_of_ble_eq_true rfl, Nat.le_of_ble_eq_true rfl⟩) 0 4 rfl rfl hK hP hD hS hA rfl hl.1 rfl (Nat.le_of_ble_eq_true rfl) dX4_used_6 ⟨Nat.le_of_ble_eq_true rfl, Nat.le_of_ble_eq_true rfl⟩ (fun H locs hP hD hS => ?_)
  have hP : va_P D vwCl (MW bd cb x6.2 m_states m_timerEvents m_transitions m_froms m_events m_variables m_relations m_numbers m_nexts m_sizes m_actions m_fired m_state m_time m_values m_runs m_dues m_emitted m_output m_ignored m_isCompiled m_classes m_numbersOf m_offsets m_useds m_tableSize m_owners m_isReached m_areApart) H := hP
  have hD : va_D A (MW bd cb x6.2 m_states m_timerEvents m_transitions m_froms m_events m_variables m_relations m_numbers m_nexts m_sizes m_actions m_fired m_state m_time m_values m_runs m_dues m_emitted m_output m_ignored m_isCompiled m_classes m_numbersOf m_offsets m_useds m_tableSize m_owners m_isReached m_areApart) := hD
  refine lv_if_eq (tgt := 21) hx hb dX4_used_9 (by decide) (fun hc => ?_) (fun hc => ?_)
  · have hf := pr_t hf hc
    refine lv_iconst (v := (0 : Int32)) hx hb dX4_used_21 (by decide) ?_
    obtain rfl := Option.some.inj hf
    subst hZ
    exact pw_ri hx hb hr hlocks hK hP hD hS (Nat.le_of_ble_eq_true rfl) (Nat.le_of_ble_eq_true rfl) dX4_used_22
  · have hf := pr_f hf hc
    refine lv_aload_n hx hb dX4_used_12 rfl (lv_at hl 0 rfl) ?_
    refine va_get (D := D) (ci := 4) (v := .ref (bd 17)) (C := RX4) (T := TX4) (N := 30) hx hb hts hiX4 hown hK hP 0 rfl rfl 25 (by decide) f64 (fun _ h9 => h9) rfl dX4_used_13 ?_
    refine lv_iload_n hx hb dX4_used_16 rfl (lv_at hl 1 rfl) ?_
    obtain ⟨hi17, hf⟩ := pr_in hf
    refine va_iald hx hb hK hP 17 16 rfl rfl hi17 dX4_used_17 ?_
    refine lv_goto (tgt := 22) hx hb dX4_used_18 (by decide) ?_
    obtain rfl := Option.some.inj hf
    subst hZ
    exact pw_ri hx hb hr hlocks hK hP hD hS (Nat.le_of_ble_eq_true rfl) (Nat.le_of_ble_eq_true rfl) dX4_used_22
abbrev rmX4_tableSize : Room := { frames := 0, cells := 0, slots := 0, locals := 0 }
set_option maxHeartbeats 4000000 in
set_option maxRecDepth 100000 in
theorem c_X4_tableSize {l : Launch} {D : va_G} {bd : Nat → Nat} {cb : Nat → ClassId} (m_thrown m_states : Int32) (m_timerEvents : Nat → Int32) (m_transitions : Int32) (m_froms m_events m_variables m_relations m_numbers m_nexts m_sizes m_actions m_fired : Nat → Int32) (m_state : Int32) (m_time : Int64) (m_values m_runs : Nat → Int32) (m_dues : Nat → Int64) (m_emitted : Int32) (m_output : Nat → Int32) (m_ignored m_isCompiled m_classes : Int32) (m_numbersOf m_offsets m_useds : Nat → Int32) (m_tableSize : Int32) (m_owners m_isReached m_areApart : Nat → Int32) {o : Int32 × Int32} (hf : X4_tableSize m_thrown m_isCompiled m_tableSize = some o) : Ci l yX4_tableSize wsX4_tableSize rmX4_tableSize D (MT cb) (MW bd cb m_thrown m_states m_timerEvents m_transitions m_froms m_events m_variables m_relations m_numbers m_nexts m_sizes m_actions m_fired m_state m_time m_values m_runs m_dues m_emitted m_output m_ignored m_isCompiled m_classes m_numbersOf m_offsets m_useds m_tableSize m_owners m_isReached m_areApart) [.ref (bd 0)] o.1 (MW bd cb o.2 m_states m_timerEvents m_transitions m_froms m_events m_variables m_relations m_numbers m_nexts m_sizes m_actions m_fired m_state m_time m_values m_runs m_dues m_emitted m_output m_ignored m_isCompiled m_classes m_numbersOf m_offsets m_useds m_tableSize m_owners m_isReached m_areApart) := by
  intro sz
  refine pw_entry (Qc := fun A => pw_Qi D (MT cb) (MW bd cb o.2 m_states m_timerEvents m_transitions m_froms m_events m_variables m_relations m_numbers m_nexts m_sizes m_actions m_fired m_state m_time m_values m_runs m_dues m_emitted m_output m_ignored m_isCompiled m_classes m_numbersOf m_offsets m_useds m_tableSize m_owners m_isReached m_areApart) A o.1) (cc := cX4_tableSize) (maxL := 1) (ret := (some .int)) (by decide) rfl (Nat.le_of_ble_eq_true rfl) ?_ sz
  intro p e s m args below meth c A ls Z H locs hx hb hr hlocks hts hown hml hnm hK hP hD hS hA hl hZ
  have hown : s.vm.findClass RX4 = some m.cls := hown
  have hiX4 : ∀ w ∈ u_ws RX4 TX4 30, w ∈ wsX4_tableSize := by decide +kernel
  have f163 := hts (.fieldLink RX4 163 "ProtocolMachineModel" "tableSize" "I") (by decide +kernel)
  have f76 := hts (.fieldLink RX4 76 "ProtocolMachineModel" "thrown" "I") (by decide +kernel)
  have f90 := hts (.fieldLink RX4 90 "ProtocolMachineModel" "isCompiled" "Z") (by decide +kernel)
  have hl : lv_has ls 1 [(0, .ref (bd 0))] := hl
  have B13 : ∀ (s1 : Int32) (H : Heap) (locs : List Loc) (ls : Array Slot), va_P D vwCl (MW bd cb m_thrown m_states m_timerEvents m_transitions m_froms m_events m_variables m_relations m_numbers m_nexts m_sizes m_actions m_fired m_state m_time m_values m_runs m_dues m_emitted m_output m_ignored m_isCompiled m_classes m_numbersOf m_offsets m_useds m_tableSize m_owners m_isReached m_areApart) H → va_D A (MW bd cb m_thrown m_states m_timerEvents m_transitions m_froms m_events m_variables m_relations m_numbers m_nexts m_sizes m_actions m_fired m_state m_time m_values m_runs m_dues m_emitted m_output m_ignored m_isCompiled m_classes m_numbersOf m_offsets m_useds m_tableSize m_owners m_isReached m_areApart) → va_S A s.heap H locs → lv_has ls 1 [(0, .ref (bd 0))] → X4_tableSize_B13 m_isCompiled m_tableSize s1 = some o → W p l e rmX4_tableSize s m args below meth c H locs 0 0 Z (F0 m 13 ls [.int s1, .ref (bd 0)]) := by
    intro s1 H locs ls hP hD hS hl hf
    unfold X4_tableSize_B13 at hf
    refine va_put (D := D) (ci := 4) (v := .int s1) (ty := .int) (C := RX4) (T := TX4) (N := 30) hx hb hts hiX4 tyX4 tyX4_ok nmX4 hown hK hP hD hS 0 rfl rfl 0 (by decide) f76 (fun _ h9 => h9) rfl (by decide +kernel) rfl rfl (Nat.le_of_ble_eq_true rfl) dX4_tableSize_13 (fun H locs hP hD hS => ?_)
    have hP : va_P D vwCl (MW bd cb s1 m_states m_timerEvents m_transitions m_froms m_events m_variables m_relations m_numbers m_nexts m_sizes m_actions m_fired m_state m_time m_values m_runs m_dues m_emitted m_output m_ignored m_isCompiled m_classes m_numbersOf m_offsets m_useds m_tableSize m_owners m_isReached m_areApart) H := hP
    have hD : va_D A (MW bd cb s1 m_states m_timerEvents m_transitions m_froms m_events m_variables m_relations m_numbers m_nexts m_sizes m_actions m_fired m_state m_time m_values m_runs m_dues m_emitted m_output m_ignored m_isCompiled m_classes m_numbersOf m_offsets m_useds m_tableSize m_owners m_isReached m_areApart) := hD
    refine lv_aload_n hx hb dX4_tableSize_16 rfl (lv_at hl 0 rfl) ?_
    refine va_get (D := D) (ci := 4) (v := .int m_isCompiled) (C := RX4) (T := TX4) (N := 30) hx hb hts hiX4 hown hK hP 0 rfl rfl 21 (by decide) f90 (fun _ h9 => h9) rfl dX4_tableSize_17 ?_
    refine lv_if_eq (tgt := 30) hx hb dX4_tableSize_20 (by decide) (fun hc => ?_) (fun hc => ?_)
    · have hf := pr_t hf hc
      refine lv_iconst (v := (0 : Int32)) hx hb dX4_tableSize_30 (by decide) ?_
      obtain rfl := Option.some.inj hf
      subst hZ
      exact pw_ri hx hb hr hlocks hK hP hD hS (Nat.le_of_ble_eq_true rfl) (Nat.le_of_ble_eq_true rfl) dX4_tableSize_31
    · have hf := pr_f hf hc
      refine lv_aload_n hx hb dX4_tableSize_23 rfl (lv_at hl 0 rfl) ?_
      refine va_get (D := D) (ci := 4) (v := .int m_tableSize) (C := RX4) (T := TX4) (N := 30) hx hb hts hiX4 hown hK hP 0 rfl rfl 26 (by decide) f163 (fun _ h9 => h9) rfl dX4_tableSize_24 ?_
      refine lv_goto (tgt := 31) hx hb dX4_tableSize_27 (by decide) ?_
      obtain rfl := Option.some.inj hf
      subst hZ
      exact pw_ri hx hb hr hlocks hK hP hD hS (Nat.le_of_ble_eq_true rfl) (Nat.le_of_ble_eq_true rfl) dX4_tableSize_31
  unfold X4_tableSize at hf
  refine lv_aload_n hx hb dX4_tableSize_0 rfl (lv_at hl 0 rfl) ?_
  refine lv_aload_n hx hb dX4_tableSize_1 rfl (lv_at hl 0 rfl) ?_
  refine va_get (D := D) (ci := 4) (v := .int m_isCompiled) (C := RX4) (T := TX4) (N := 30) hx hb hts hiX4 hown hK hP 0 rfl rfl 21 (by decide) f90 (fun _ h9 => h9) rfl dX4_tableSize_2 ?_
  refine lv_if_eq (tgt := 12) hx hb dX4_tableSize_5 (by decide) (fun hc => ?_) (fun hc => ?_)
  · have hf := pr_t hf hc
    refine lv_iconst (v := (1 : Int32)) hx hb dX4_tableSize_12 (by decide) ?_
    exact B13 (1 : Int32) H locs ls hP hD hS (lv_sub hl [0] rfl) hf
  · have hf := pr_f hf hc
    refine lv_iconst (v := (0 : Int32)) hx hb dX4_tableSize_8 (by decide) ?_
    refine lv_goto (tgt := 13) hx hb dX4_tableSize_9 (by decide) ?_
    exact B13 (0 : Int32) H locs ls hP hD hS (lv_sub hl [0] rfl) hf
abbrev rmX4_owner : Room := { frames := 1, cells := 0, slots := 0, locals := 22 }
set_option maxHeartbeats 4000000 in
set_option maxRecDepth 100000 in
theorem c_X4_owner {l : Launch} {D : va_G} {bd : Nat → Nat} {cb : Nat → ClassId} (m_thrown m_states : Int32) (m_timerEvents : Nat → Int32) (m_transitions : Int32) (m_froms m_events m_variables m_relations m_numbers m_nexts m_sizes m_actions m_fired : Nat → Int32) (m_state : Int32) (m_time : Int64) (m_values m_runs : Nat → Int32) (m_dues : Nat → Int64) (m_emitted : Int32) (m_output : Nat → Int32) (m_ignored m_isCompiled m_classes : Int32) (m_numbersOf m_offsets m_useds : Nat → Int32) (m_tableSize : Int32) (m_owners m_isReached m_areApart : Nat → Int32) (v1 : Int32) {o : Int32 × Int32} (hf : X4_owner m_thrown m_isCompiled m_tableSize m_owners v1 = some o) : Ci l yX4_owner wsX4_owner rmX4_owner D (MT cb) (MW bd cb m_thrown m_states m_timerEvents m_transitions m_froms m_events m_variables m_relations m_numbers m_nexts m_sizes m_actions m_fired m_state m_time m_values m_runs m_dues m_emitted m_output m_ignored m_isCompiled m_classes m_numbersOf m_offsets m_useds m_tableSize m_owners m_isReached m_areApart) [.ref (bd 0), .int v1] o.1 (MW bd cb o.2 m_states m_timerEvents m_transitions m_froms m_events m_variables m_relations m_numbers m_nexts m_sizes m_actions m_fired m_state m_time m_values m_runs m_dues m_emitted m_output m_ignored m_isCompiled m_classes m_numbersOf m_offsets m_useds m_tableSize m_owners m_isReached m_areApart) := by
  intro sz
  refine pw_entry (Qc := fun A => pw_Qi D (MT cb) (MW bd cb o.2 m_states m_timerEvents m_transitions m_froms m_events m_variables m_relations m_numbers m_nexts m_sizes m_actions m_fired m_state m_time m_values m_runs m_dues m_emitted m_output m_ignored m_isCompiled m_classes m_numbersOf m_offsets m_useds m_tableSize m_owners m_isReached m_areApart) A o.1) (cc := cX4_owner) (maxL := 2) (ret := (some .int)) (by decide) rfl (Nat.le_of_ble_eq_true rfl) ?_ sz
  intro p e s m args below meth c A ls Z H locs hx hb hr hlocks hts hown hml hnm hK hP hD hS hA hl hZ
  have hown : s.vm.findClass RX4 = some m.cls := hown
  have hiX4 : ∀ w ∈ u_ws RX4 TX4 30, w ∈ wsX4_owner := by decide +kernel
  have f163 := hts (.fieldLink RX4 163 "ProtocolMachineModel" "tableSize" "I") (by decide +kernel)
  have f67 := hts (.fieldLink RX4 67 "ProtocolMachineModel" "owners" "[I") (by decide +kernel)
  have hl : lv_has ls 2 [(0, .ref (bd 0)), (1, .int v1)] := hl
  unfold X4_owner at hf
  refine lv_aload_n hx hb dX4_owner_0 rfl (lv_at hl 0 rfl) ?_
  refine lv_iload_n hx hb dX4_owner_1 rfl (lv_at hl 1 rfl) ?_
  refine lv_aload_n hx hb dX4_owner_2 rfl (lv_at hl 0 rfl) ?_
  refine va_get (D := D) (ci := 4) (v := .int m_tableSize) (C := RX4) (T := TX4) (N := 30) hx hb hts hiX4 hown hK hP 0 rfl rfl 26 (by decide) f163 (fun _ h9 => h9) rfl dX4_owner_3 ?_
  obtain ⟨x6, hg6, hf⟩ := pr_b hf
  refine pw_cViW (b := bd 0) (As := [.int v1, .int m_tableSize]) (rest := []) ⟨hx, hb, hml, hown, hts⟩ (c_X4_asks (D := D) m_thrown m_states m_timerEvents m_transitions m_froms m_events m_variables m_relations m_numbers m_nexts m_sizes m_actions m_fired m_state m_time m_values m_runs m_dues m_emitted m_output m_ignored m_isCompiled m_classes m_numbersOf m_offsets m_useds m_tableSize m_owners m_isReached m_areApart v1 m_tableSize hg6) (cwV 2 hts gX4_owner_X4_asks rfl rfl rfl (by decide +kernel) ⟨Nat.le_of_ble_eq_true rfl, Nat.le_of_ble_eq_true rfl⟩) 0 4 rfl rfl hK hP hD hS hA rfl hl.1 rfl (Nat.le_of_ble_eq_true rfl) dX4_owner_6 ⟨Nat.le_of_ble_eq_true rfl, Nat.le_of_ble_eq_true rfl⟩ (fun H locs hP hD hS => ?_)
  have hP : va_P D vwCl (MW bd cb x6.2 m_states m_timerEvents m_transitions m_froms m_events m_variables m_relations m_numbers m_nexts m_sizes m_actions m_fired m_state m_time m_values m_runs m_dues m_emitted m_output m_ignored m_isCompiled m_classes m_numbersOf m_offsets m_useds m_tableSize m_owners m_isReached m_areApart) H := hP
  have hD : va_D A (MW bd cb x6.2 m_states m_timerEvents m_transitions m_froms m_events m_variables m_relations m_numbers m_nexts m_sizes m_actions m_fired m_state m_time m_values m_runs m_dues m_emitted m_output m_ignored m_isCompiled m_classes m_numbersOf m_offsets m_useds m_tableSize m_owners m_isReached m_areApart) := hD
  refine lv_if_eq (tgt := 21) hx hb dX4_owner_9 (by decide) (fun hc => ?_) (fun hc => ?_)
  · have hf := pr_t hf hc
    refine lv_iconst (v := (0 : Int32)) hx hb dX4_owner_21 (by decide) ?_
    obtain rfl := Option.some.inj hf
    subst hZ
    exact pw_ri hx hb hr hlocks hK hP hD hS (Nat.le_of_ble_eq_true rfl) (Nat.le_of_ble_eq_true rfl) dX4_owner_22
  · have hf := pr_f hf hc
    refine lv_aload_n hx hb dX4_owner_12 rfl (lv_at hl 0 rfl) ?_
    refine va_get (D := D) (ci := 4) (v := .ref (bd 18)) (C := RX4) (T := TX4) (N := 30) hx hb hts hiX4 hown hK hP 0 rfl rfl 27 (by decide) f67 (fun _ h9 => h9) rfl dX4_owner_13 ?_
    refine lv_iload_n hx hb dX4_owner_16 rfl (lv_at hl 1 rfl) ?_
    obtain ⟨hi17, hf⟩ := pr_in hf
    refine va_iald hx hb hK hP 18 17 rfl rfl hi17 dX4_owner_17 ?_
    refine lv_goto (tgt := 22) hx hb dX4_owner_18 (by decide) ?_
    obtain rfl := Option.some.inj hf
    subst hZ
    exact pw_ri hx hb hr hlocks hK hP hD hS (Nat.le_of_ble_eq_true rfl) (Nat.le_of_ble_eq_true rfl) dX4_owner_22
abbrev rmX4_density : Room := { frames := 0, cells := 0, slots := 0, locals := 0 }
set_option maxHeartbeats 4000000 in
set_option maxRecDepth 100000 in
theorem c_X4_density {l : Launch} {D : va_G} {bd : Nat → Nat} {cb : Nat → ClassId} (fu : Nat) (m_thrown m_states : Int32) (m_timerEvents : Nat → Int32) (m_transitions : Int32) (m_froms m_events m_variables m_relations m_numbers m_nexts m_sizes m_actions m_fired : Nat → Int32) (m_state : Int32) (m_time : Int64) (m_values m_runs : Nat → Int32) (m_dues : Nat → Int64) (m_emitted : Int32) (m_output : Nat → Int32) (m_ignored m_isCompiled m_classes : Int32) (m_numbersOf m_offsets m_useds : Nat → Int32) (m_tableSize : Int32) (m_owners m_isReached m_areApart : Nat → Int32) {o : UInt64 × Int32} (hf : X4_density fu m_thrown m_isCompiled m_tableSize m_owners = some o) : Cd l yX4_density wsX4_density rmX4_density D (MT cb) (MW bd cb m_thrown m_states m_timerEvents m_transitions m_froms m_events m_variables m_relations m_numbers m_nexts m_sizes m_actions m_fired m_state m_time m_values m_runs m_dues m_emitted m_output m_ignored m_isCompiled m_classes m_numbersOf m_offsets m_useds m_tableSize m_owners m_isReached m_areApart) [.ref (bd 0)] o.1 (MW bd cb o.2 m_states m_timerEvents m_transitions m_froms m_events m_variables m_relations m_numbers m_nexts m_sizes m_actions m_fired m_state m_time m_values m_runs m_dues m_emitted m_output m_ignored m_isCompiled m_classes m_numbersOf m_offsets m_useds m_tableSize m_owners m_isReached m_areApart) := by
  intro sz
  refine pw_entry (Qc := fun A => pw_Qd D (MT cb) (MW bd cb o.2 m_states m_timerEvents m_transitions m_froms m_events m_variables m_relations m_numbers m_nexts m_sizes m_actions m_fired m_state m_time m_values m_runs m_dues m_emitted m_output m_ignored m_isCompiled m_classes m_numbersOf m_offsets m_useds m_tableSize m_owners m_isReached m_areApart) A o.1) (cc := cX4_density) (maxL := 3) (ret := (some .double)) (by decide) rfl (Nat.le_of_ble_eq_true rfl) ?_ sz
  intro p e s m args below meth c A ls Z H locs hx hb hr hlocks hts hown hml hnm hK hP hD hS hA hl hZ
  have hown : s.vm.findClass RX4 = some m.cls := hown
  have hiX4 : ∀ w ∈ u_ws RX4 TX4 30, w ∈ wsX4_density := by decide +kernel
  have f163 := hts (.fieldLink RX4 163 "ProtocolMachineModel" "tableSize" "I") (by decide +kernel)
  have f67 := hts (.fieldLink RX4 67 "ProtocolMachineModel" "owners" "[I") (by decide +kernel)
  have f76 := hts (.fieldLink RX4 76 "ProtocolMachineModel" "thrown" "I") (by decide +kernel)
  have f90 := hts (.fieldLink RX4 90 "ProtocolMachineModel" "isCompiled" "Z") (by decide +kernel)
  have hl : lv_has ls 3 [(0, .ref (bd 0))] := hl
  have B61 : ∀ (m_thrown v1 : Int32) (H : Heap) (locs : List Loc) (ls : Array Slot), va_P D vwCl (MW bd cb m_thrown m_states m_timerEvents m_transitions m_froms m_events m_variables m_relations m_numbers m_nexts m_sizes m_actions m_fired m_state m_time m_values m_runs m_dues m_emitted m_output m_ignored m_isCompiled m_classes m_numbersOf m_offsets m_useds m_tableSize m_owners m_isReached m_areApart) H → va_D A (MW bd cb m_thrown m_states m_timerEvents m_transitions m_froms m_events m_variables m_relations m_numbers m_nexts m_sizes m_actions m_fired m_state m_time m_values m_runs m_dues m_emitted m_output m_ignored m_isCompiled m_classes m_numbersOf m_offsets m_useds m_tableSize m_owners m_isReached m_areApart) → va_S A s.heap H locs → lv_has ls 3 [(0, .ref (bd 0)), (1, .int v1)] → X4_density_B61 m_tableSize m_thrown v1 = some o → W p l e rmX4_density s m args below meth c H locs 0 0 Z (F0 m 61 ls []) := by
    intro m_thrown v1 H locs ls hP hD hS hl hf
    unfold X4_density_B61 at hf
    refine lv_aload_n hx hb dX4_density_61 rfl (lv_at hl 0 rfl) ?_
    refine va_get (D := D) (ci := 4) (v := .int m_tableSize) (C := RX4) (T := TX4) (N := 30) hx hb hts hiX4 hown hK hP 0 rfl rfl 26 (by decide) f163 (fun _ h9 => h9) rfl dX4_density_62 ?_
    refine lv_if_ne (tgt := 72) hx hb dX4_density_65 (by decide) (fun hc => ?_) (fun hc => ?_)
    · have hf := pr_f hf hc
      refine lv_iload_n hx hb dX4_density_72 rfl (lv_at hl 1 rfl) ?_
      refine lv_i2d hx hb dX4_density_73 ?_
      refine lv_aload_n hx hb dX4_density_74 rfl (lv_at hl 0 rfl) ?_
      refine va_get (D := D) (ci := 4) (v := .int m_tableSize) (C := RX4) (T := TX4) (N := 30) hx hb hts hiX4 hown hK hP 0 rfl rfl 26 (by decide) f163 (fun _ h9 => h9) rfl dX4_density_75 ?_
      refine lv_i2d hx hb dX4_density_78 ?_
      obtain ⟨hn79, hf⟩ := pr_nn hf
      refine lv_ddiv hx hb dX4_density_79 hn79 ?_
      obtain rfl := Option.some.inj hf
      subst hZ
      exact pw_rd hx hb hr hlocks hK hP hD hS (Nat.le_of_ble_eq_true rfl) (Nat.le_of_ble_eq_true rfl) dX4_density_80
    · have hf := pr_t hf hc
      refine lv_dconst1 hx hb dX4_density_68 ?_
      refine lv_goto (tgt := 80) hx hb dX4_density_69 (by decide) ?_
      obtain rfl := Option.some.inj hf
      subst hZ
      exact pw_rd hx hb hr hlocks hK hP hD hS (Nat.le_of_ble_eq_true rfl) (Nat.le_of_ble_eq_true rfl) dX4_density_80
  have L29 : ∀ n29 : Nat, ∀ (m_thrown v1 v2 : Int32) (H : Heap) (locs : List Loc) (ls : Array Slot), va_P D vwCl (MW bd cb m_thrown m_states m_timerEvents m_transitions m_froms m_events m_variables m_relations m_numbers m_nexts m_sizes m_actions m_fired m_state m_time m_values m_runs m_dues m_emitted m_output m_ignored m_isCompiled m_classes m_numbersOf m_offsets m_useds m_tableSize m_owners m_isReached m_areApart) H → va_D A (MW bd cb m_thrown m_states m_timerEvents m_transitions m_froms m_events m_variables m_relations m_numbers m_nexts m_sizes m_actions m_fired m_state m_time m_values m_runs m_dues m_emitted m_output m_ignored m_isCompiled m_classes m_numbersOf m_offsets m_useds m_tableSize m_owners m_isReached m_areApart) → va_S A s.heap H locs → lv_has ls 3 [(0, .ref (bd 0)), (1, .int v1), (2, .int v2)] → X4_density_L29 m_tableSize m_owners n29 m_thrown v1 v2 = some o → W p l e rmX4_density s m args below meth c H locs 0 0 Z (F0 m 29 ls []) := by
    intro n29
    induction n29 with
    | zero =>
      intro m_thrown v1 v2 H locs ls hP hD hS hl hf
      exact pr_n hf
    | succ n29 ih29 =>
      intro m_thrown v1 v2 H locs ls hP hD hS hl hf
      replace hf : X4_density_B29 m_tableSize m_owners (X4_density_L29 m_tableSize m_owners  n29) m_thrown v1 v2 = some o := hf
      unfold X4_density_B29 at hf
      refine lv_iload_n hx hb dX4_density_29 rfl (lv_at hl 2 rfl) ?_
      refine lv_aload_n hx hb dX4_density_30 rfl (lv_at hl 0 rfl) ?_
      refine va_get (D := D) (ci := 4) (v := .int m_tableSize) (C := RX4) (T := TX4) (N := 30) hx hb hts hiX4 hown hK hP 0 rfl rfl 26 (by decide) f163 (fun _ h9 => h9) rfl dX4_density_31 ?_
      refine lv_icmp_ge (tgt := 61) hx hb dX4_density_34 (by decide) (fun hc => ?_) (fun hc => ?_)
      · have hf := pr_t hf hc
        exact B61 m_thrown v1 H locs ls hP hD hS (lv_sub hl [0, 1] rfl) hf
      · have hf := pr_f hf hc
        refine lv_iload_n hx hb dX4_density_37 rfl (lv_at hl 1 rfl) ?_
        refine lv_aload_n hx hb dX4_density_38 rfl (lv_at hl 0 rfl) ?_
        refine va_get (D := D) (ci := 4) (v := .ref (bd 18)) (C := RX4) (T := TX4) (N := 30) hx hb hts hiX4 hown hK hP 0 rfl rfl 27 (by decide) f67 (fun _ h9 => h9) rfl dX4_density_39 ?_
        refine lv_iload_n hx hb dX4_density_42 rfl (lv_at hl 2 rfl) ?_
        obtain ⟨hi43, hf⟩ := pr_in hf
        refine va_iald hx hb hK hP 18 17 rfl rfl hi43 dX4_density_43 ?_
        refine lv_iconst (v := (-1 : Int32)) hx hb dX4_density_44 (by decide) ?_
        refine lv_icmp_ne (tgt := 52) hx hb dX4_density_45 (by decide) (fun hc => ?_) (fun hc => ?_)
        · have hf := pr_f hf hc
          refine lv_iconst (v := (1 : Int32)) hx hb dX4_density_52 (by decide) ?_
          refine lv_iadd hx hb dX4_density_53 ?_
          refine lv_istore_n (lv' := [(1, .int (v1 + (1 : Int32))), (0, .ref (bd 0)), (2, .int v2)]) hx hb dX4_density_54 rfl hl (by decide) rfl (fun ls hl => ?_)
          refine lv_iinc (v := (v2 + (1 : Int32))) (lv' := [(2, .int (v2 + (1 : Int32))), (1, .int (v1 + (1 : Int32))), (0, .ref (bd 0))]) hx hb dX4_density_55 hl (k := 2) rfl rfl (by decide) rfl (fun ls hl => ?_)
          refine lv_goto (tgt := 29) hx hb dX4_density_58 (by decide) ?_
          exact ih29 m_thrown (v1 + (1 : Int32)) (v2 + (1 : Int32)) H locs ls hP hD hS (lv_sub hl [2, 1, 0] rfl) hf
        · have hf := pr_t hf hc
          refine lv_iconst (v := (0 : Int32)) hx hb dX4_density_48 (by decide) ?_
          refine lv_goto (tgt := 53) hx hb dX4_density_49 (by decide) ?_
          refine lv_iadd hx hb dX4_density_53 ?_
          refine lv_istore_n (lv' := [(1, .int (v1 + (0 : Int32))), (0, .ref (bd 0)), (2, .int v2)]) hx hb dX4_density_54 rfl hl (by decide) rfl (fun ls hl => ?_)
          refine lv_iinc (v := (v2 + (1 : Int32))) (lv' := [(2, .int (v2 + (1 : Int32))), (1, .int (v1 + (0 : Int32))), (0, .ref (bd 0))]) hx hb dX4_density_55 hl (k := 2) rfl rfl (by decide) rfl (fun ls hl => ?_)
          refine lv_goto (tgt := 29) hx hb dX4_density_58 (by decide) ?_
          exact ih29 m_thrown (v1 + (0 : Int32)) (v2 + (1 : Int32)) H locs ls hP hD hS (lv_sub hl [2, 1, 0] rfl) hf
  have B13 : ∀ (s1 : Int32) (H : Heap) (locs : List Loc) (ls : Array Slot), va_P D vwCl (MW bd cb m_thrown m_states m_timerEvents m_transitions m_froms m_events m_variables m_relations m_numbers m_nexts m_sizes m_actions m_fired m_state m_time m_values m_runs m_dues m_emitted m_output m_ignored m_isCompiled m_classes m_numbersOf m_offsets m_useds m_tableSize m_owners m_isReached m_areApart) H → va_D A (MW bd cb m_thrown m_states m_timerEvents m_transitions m_froms m_events m_variables m_relations m_numbers m_nexts m_sizes m_actions m_fired m_state m_time m_values m_runs m_dues m_emitted m_output m_ignored m_isCompiled m_classes m_numbersOf m_offsets m_useds m_tableSize m_owners m_isReached m_areApart) → va_S A s.heap H locs → lv_has ls 3 [(0, .ref (bd 0))] → X4_density_B13 fu m_tableSize m_owners s1 = some o → W p l e rmX4_density s m args below meth c H locs 0 0 Z (F0 m 13 ls [.int s1, .ref (bd 0)]) := by
    intro s1 H locs ls hP hD hS hl hf
    unfold X4_density_B13 at hf
    refine va_put (D := D) (ci := 4) (v := .int s1) (ty := .int) (C := RX4) (T := TX4) (N := 30) hx hb hts hiX4 tyX4 tyX4_ok nmX4 hown hK hP hD hS 0 rfl rfl 0 (by decide) f76 (fun _ h9 => h9) rfl (by decide +kernel) rfl rfl (Nat.le_of_ble_eq_true rfl) dX4_density_13 (fun H locs hP hD hS => ?_)
    have hP : va_P D vwCl (MW bd cb s1 m_states m_timerEvents m_transitions m_froms m_events m_variables m_relations m_numbers m_nexts m_sizes m_actions m_fired m_state m_time m_values m_runs m_dues m_emitted m_output m_ignored m_isCompiled m_classes m_numbersOf m_offsets m_useds m_tableSize m_owners m_isReached m_areApart) H := hP
    have hD : va_D A (MW bd cb s1 m_states m_timerEvents m_transitions m_froms m_events m_variables m_relations m_numbers m_nexts m_sizes m_actions m_fired m_state m_time m_values m_runs m_dues m_emitted m_output m_ignored m_isCompiled m_classes m_numbersOf m_offsets m_useds m_tableSize m_owners m_isReached m_areApart) := hD
    refine lv_aload_n hx hb dX4_density_16 rfl (lv_at hl 0 rfl) ?_
    refine va_get (D := D) (ci := 4) (v := .int s1) (C := RX4) (T := TX4) (N := 30) hx hb hts hiX4 hown hK hP 0 rfl rfl 0 (by decide) f76 (fun _ h9 => h9) rfl dX4_density_17 ?_
    refine lv_if_eq (tgt := 25) hx hb dX4_density_20 (by decide) (fun hc => ?_) (fun hc => ?_)
    · have hf := pr_t hf hc
      refine lv_iconst (v := (0 : Int32)) hx hb dX4_density_25 (by decide) ?_
      refine lv_istore_n (lv' := [(1, .int (0 : Int32)), (0, .ref (bd 0))]) hx hb dX4_density_26 rfl hl (by decide) rfl (fun ls hl => ?_)
      refine lv_iconst (v := (0 : Int32)) hx hb dX4_density_27 (by decide) ?_
      refine lv_istore_n (lv' := [(2, .int (0 : Int32)), (1, .int (0 : Int32)), (0, .ref (bd 0))]) hx hb dX4_density_28 rfl hl (by decide) rfl (fun ls hl => ?_)
      exact L29 fu s1 (0 : Int32) (0 : Int32) H locs ls hP hD hS (lv_sub hl [2, 1, 0] rfl) hf
    · have hf := pr_f hf hc
      refine lv_dconst0 hx hb dX4_density_23 ?_
      obtain rfl := Option.some.inj hf
      subst hZ
      exact pw_rd hx hb hr hlocks hK hP hD hS (Nat.le_of_ble_eq_true rfl) (Nat.le_of_ble_eq_true rfl) dX4_density_24
  unfold X4_density at hf
  refine lv_aload_n hx hb dX4_density_0 rfl (lv_at hl 0 rfl) ?_
  refine lv_aload_n hx hb dX4_density_1 rfl (lv_at hl 0 rfl) ?_
  refine va_get (D := D) (ci := 4) (v := .int m_isCompiled) (C := RX4) (T := TX4) (N := 30) hx hb hts hiX4 hown hK hP 0 rfl rfl 21 (by decide) f90 (fun _ h9 => h9) rfl dX4_density_2 ?_
  refine lv_if_eq (tgt := 12) hx hb dX4_density_5 (by decide) (fun hc => ?_) (fun hc => ?_)
  · have hf := pr_t hf hc
    refine lv_iconst (v := (1 : Int32)) hx hb dX4_density_12 (by decide) ?_
    exact B13 (1 : Int32) H locs ls hP hD hS (lv_sub hl [0] rfl) hf
  · have hf := pr_f hf hc
    refine lv_iconst (v := (0 : Int32)) hx hb dX4_density_8 (by decide) ?_
    refine lv_goto (tgt := 13) hx hb dX4_density_9 (by decide) ?_
    exact B13 (0 : Int32) H locs ls hP hD hS (lv_sub hl [0] rfl) hf
abbrev rmX4_digest : Room := { frames := 1, cells := 0, slots := 0, locals := 21 }
set_option maxHeartbeats 4000000 in
set_option maxRecDepth 100000 in
theorem c_X4_digest {l : Launch} {D : va_G} {bd : Nat → Nat} {cb : Nat → ClassId} (fu : Nat) (m_thrown m_states : Int32) (m_timerEvents : Nat → Int32) (m_transitions : Int32) (m_froms m_events m_variables m_relations m_numbers m_nexts m_sizes m_actions m_fired : Nat → Int32) (m_state : Int32) (m_time : Int64) (m_values m_runs : Nat → Int32) (m_dues : Nat → Int64) (m_emitted : Int32) (m_output : Nat → Int32) (m_ignored m_isCompiled m_classes : Int32) (m_numbersOf m_offsets m_useds : Nat → Int32) (m_tableSize : Int32) (m_owners m_isReached m_areApart : Nat → Int32) {o : Int64 × Int32} (hf : X4_digest fu m_thrown m_states m_transitions m_froms m_events m_nexts m_sizes m_fired m_state m_time m_values m_runs m_dues m_emitted m_ignored m_isCompiled m_classes m_offsets = some o) : Cl l yX4_digest wsX4_digest rmX4_digest D (MT cb) (MW bd cb m_thrown m_states m_timerEvents m_transitions m_froms m_events m_variables m_relations m_numbers m_nexts m_sizes m_actions m_fired m_state m_time m_values m_runs m_dues m_emitted m_output m_ignored m_isCompiled m_classes m_numbersOf m_offsets m_useds m_tableSize m_owners m_isReached m_areApart) [.ref (bd 0)] o.1 (MW bd cb o.2 m_states m_timerEvents m_transitions m_froms m_events m_variables m_relations m_numbers m_nexts m_sizes m_actions m_fired m_state m_time m_values m_runs m_dues m_emitted m_output m_ignored m_isCompiled m_classes m_numbersOf m_offsets m_useds m_tableSize m_owners m_isReached m_areApart) := by
  intro sz
  refine pw_entry (Qc := fun A => pw_Ql D (MT cb) (MW bd cb o.2 m_states m_timerEvents m_transitions m_froms m_events m_variables m_relations m_numbers m_nexts m_sizes m_actions m_fired m_state m_time m_values m_runs m_dues m_emitted m_output m_ignored m_isCompiled m_classes m_numbersOf m_offsets m_useds m_tableSize m_owners m_isReached m_areApart) A o.1) (cc := cX4_digest) (maxL := 4) (ret := (some .long)) (by decide) rfl (Nat.le_of_ble_eq_true rfl) ?_ sz
  intro p e s m args below meth c A ls Z H locs hx hb hr hlocks hts hown hml hnm hK hP hD hS hA hl hZ
  have hown : s.vm.findClass RX4 = some m.cls := hown
  have hiX4 : ∀ w ∈ u_ws RX4 TX4 30, w ∈ wsX4_digest := by decide +kernel
  have f114 := hts (.fieldLink RX4 114 "ProtocolMachineModel" "time" "J") (by decide +kernel)
  have f118 := hts (.fieldLink RX4 118 "ProtocolMachineModel" "state" "I") (by decide +kernel)
  have f121 := hts (.fieldLink RX4 121 "ProtocolMachineModel" "emitted" "I") (by decide +kernel)
  have f124 := hts (.fieldLink RX4 124 "ProtocolMachineModel" "ignored" "I") (by decide +kernel)
  have f17 := hts (.fieldLink RX4 17 "ProtocolMachineModel" "froms" "[I") (by decide +kernel)
  have f172 := hts (.fieldLink RX4 172 "ProtocolMachineModel" "classes" "I") (by decide +kernel)
  have f20 := hts (.fieldLink RX4 20 "ProtocolMachineModel" "events" "[I") (by decide +kernel)
  have f32 := hts (.fieldLink RX4 32 "ProtocolMachineModel" "nexts" "[I") (by decide +kernel)
  have f35 := hts (.fieldLink RX4 35 "ProtocolMachineModel" "sizes" "[I") (by decide +kernel)
  have f41 := hts (.fieldLink RX4 41 "ProtocolMachineModel" "fired" "[I") (by decide +kernel)
  have f44 := hts (.fieldLink RX4 44 "ProtocolMachineModel" "values" "[I") (by decide +kernel)
  have f61 := hts (.fieldLink RX4 61 "ProtocolMachineModel" "offsets" "[I") (by decide +kernel)
  have f7 := hts (.fieldLink RX4 7 "ProtocolMachineModel" "states" "I") (by decide +kernel)
  have f76 := hts (.fieldLink RX4 76 "ProtocolMachineModel" "thrown" "I") (by decide +kernel)
  have f83 := hts (.fieldLink RX4 83 "ProtocolMachineModel" "transitions" "I") (by decide +kernel)
  have f90 := hts (.fieldLink RX4 90 "ProtocolMachineModel" "isCompiled" "Z") (by decide +kernel)
  have k193 := hts (.constantLong RX4 193 (3937)) (by decide +kernel)
  have k195 := hts (.constantLong RX4 195 (31)) (by decide +kernel)
  have hl : lv_has ls 4 [(0, .ref (bd 0))] := hl
  have L222 : ∀ n222 : Nat, ∀ (m_thrown : Int32) (v1 : Int64) (v3 : Int32) (H : Heap) (locs : List Loc) (ls : Array Slot), va_P D vwCl (MW bd cb m_thrown m_states m_timerEvents m_transitions m_froms m_events m_variables m_relations m_numbers m_nexts m_sizes m_actions m_fired m_state m_time m_values m_runs m_dues m_emitted m_output m_ignored m_isCompiled m_classes m_numbersOf m_offsets m_useds m_tableSize m_owners m_isReached m_areApart) H → va_D A (MW bd cb m_thrown m_states m_timerEvents m_transitions m_froms m_events m_variables m_relations m_numbers m_nexts m_sizes m_actions m_fired m_state m_time m_values m_runs m_dues m_emitted m_output m_ignored m_isCompiled m_classes m_numbersOf m_offsets m_useds m_tableSize m_owners m_isReached m_areApart) → va_S A s.heap H locs → lv_has ls 4 [(0, .ref (bd 0)), (1, .long v1), (3, .int v3)] → X4_digest_L222 m_classes m_offsets n222 m_thrown v1 v3 = some o → W p l e rmX4_digest s m args below meth c H locs 0 0 Z (F0 m 222 ls []) := by
    intro n222
    induction n222 with
    | zero =>
      intro m_thrown v1 v3 H locs ls hP hD hS hl hf
      exact pr_n hf
    | succ n222 ih222 =>
      intro m_thrown v1 v3 H locs ls hP hD hS hl hf
      replace hf : X4_digest_B222 m_classes m_offsets (X4_digest_L222 m_classes m_offsets  n222) m_thrown v1 v3 = some o := hf
      unfold X4_digest_B222 at hf
      refine lv_iload_n hx hb dX4_digest_222 rfl (lv_at hl 2 rfl) ?_
      refine lv_aload_n hx hb dX4_digest_223 rfl (lv_at hl 0 rfl) ?_
      refine va_get (D := D) (ci := 4) (v := .int m_classes) (C := RX4) (T := TX4) (N := 30) hx hb hts hiX4 hown hK hP 0 rfl rfl 22 (by decide) f172 (fun _ h9 => h9) rfl dX4_digest_224 ?_
      refine lv_icmp_ge (tgt := 250) hx hb dX4_digest_227 (by decide) (fun hc => ?_) (fun hc => ?_)
      · have hf := pr_t hf hc
        refine lv_lload_n hx hb dX4_digest_250 rfl (lv_at hl 1 rfl) ?_
        obtain rfl := Option.some.inj hf
        subst hZ
        exact pw_rl hx hb hr hlocks hK hP hD hS (Nat.le_of_ble_eq_true rfl) (Nat.le_of_ble_eq_true rfl) dX4_digest_251
      · have hf := pr_f hf hc
        refine lv_lload_n hx hb dX4_digest_230 rfl (lv_at hl 1 rfl) ?_
        refine lv_ldc2 (v := (31 : Int64)) hx hb hown k195 dX4_digest_231 ?_
        refine lv_lmul hx hb dX4_digest_234 ?_
        refine lv_aload_n hx hb dX4_digest_235 rfl (lv_at hl 0 rfl) ?_
        refine va_get (D := D) (ci := 4) (v := .ref (bd 16)) (C := RX4) (T := TX4) (N := 30) hx hb hts hiX4 hown hK hP 0 rfl rfl 24 (by decide) f61 (fun _ h9 => h9) rfl dX4_digest_236 ?_
        refine lv_iload_n hx hb dX4_digest_239 rfl (lv_at hl 2 rfl) ?_
        obtain ⟨hi240, hf⟩ := pr_in hf
        refine va_iald hx hb hK hP 16 15 rfl rfl hi240 dX4_digest_240 ?_
        refine lv_i2l (v := (m_offsets v3.toNatClampNeg).toInt64) hx hb dX4_digest_241 rfl ?_
        refine lv_ladd hx hb dX4_digest_242 ?_
        refine lv_lstore_n (lv' := [(1, .long ((v1 * (31 : Int64)) + (m_offsets v3.toNatClampNeg).toInt64)), (0, .ref (bd 0)), (3, .int v3)]) hx hb dX4_digest_243 rfl hl (by decide) rfl (fun ls hl => ?_)
        refine lv_iinc (v := (v3 + (1 : Int32))) (lv' := [(3, .int (v3 + (1 : Int32))), (1, .long ((v1 * (31 : Int64)) + (m_offsets v3.toNatClampNeg).toInt64)), (0, .ref (bd 0))]) hx hb dX4_digest_244 hl (k := 2) rfl rfl (by decide) rfl (fun ls hl => ?_)
        refine lv_goto (tgt := 222) hx hb dX4_digest_247 (by decide) ?_
        exact ih222 m_thrown ((v1 * (31 : Int64)) + (m_offsets v3.toNatClampNeg).toInt64) (v3 + (1 : Int32)) H locs ls hP hD hS (lv_sub hl [2, 1, 0] rfl) hf
  have B177 : ∀ (m_thrown : Int32) (v1 : Int64) (H : Heap) (locs : List Loc) (ls : Array Slot), va_P D vwCl (MW bd cb m_thrown m_states m_timerEvents m_transitions m_froms m_events m_variables m_relations m_numbers m_nexts m_sizes m_actions m_fired m_state m_time m_values m_runs m_dues m_emitted m_output m_ignored m_isCompiled m_classes m_numbersOf m_offsets m_useds m_tableSize m_owners m_isReached m_areApart) H → va_D A (MW bd cb m_thrown m_states m_timerEvents m_transitions m_froms m_events m_variables m_relations m_numbers m_nexts m_sizes m_actions m_fired m_state m_time m_values m_runs m_dues m_emitted m_output m_ignored m_isCompiled m_classes m_numbersOf m_offsets m_useds m_tableSize m_owners m_isReached m_areApart) → va_S A s.heap H locs → lv_has ls 4 [(0, .ref (bd 0)), (1, .long v1)] → X4_digest_B177 fu m_emitted m_ignored m_isCompiled m_classes m_offsets m_thrown v1 = some o → W p l e rmX4_digest s m args below meth c H locs 0 0 Z (F0 m 177 ls []) := by
    intro m_thrown v1 H locs ls hP hD hS hl hf
    unfold X4_digest_B177 at hf
    refine lv_lload_n hx hb dX4_digest_177 rfl (lv_at hl 1 rfl) ?_
    refine lv_ldc2 (v := (31 : Int64)) hx hb hown k195 dX4_digest_178 ?_
    refine lv_lmul hx hb dX4_digest_181 ?_
    refine lv_aload_n hx hb dX4_digest_182 rfl (lv_at hl 0 rfl) ?_
    refine va_get (D := D) (ci := 4) (v := .int m_emitted) (C := RX4) (T := TX4) (N := 30) hx hb hts hiX4 hown hK hP 0 rfl rfl 18 (by decide) f121 (fun _ h9 => h9) rfl dX4_digest_183 ?_
    refine lv_i2l (v := m_emitted.toInt64) hx hb dX4_digest_186 rfl ?_
    refine lv_ladd hx hb dX4_digest_187 ?_
    refine lv_ldc2 (v := (31 : Int64)) hx hb hown k195 dX4_digest_188 ?_
    refine lv_lmul hx hb dX4_digest_191 ?_
    refine lv_aload_n hx hb dX4_digest_192 rfl (lv_at hl 0 rfl) ?_
    refine va_get (D := D) (ci := 4) (v := .int m_ignored) (C := RX4) (T := TX4) (N := 30) hx hb hts hiX4 hown hK hP 0 rfl rfl 20 (by decide) f124 (fun _ h9 => h9) rfl dX4_digest_193 ?_
    refine lv_i2l (v := m_ignored.toInt64) hx hb dX4_digest_196 rfl ?_
    refine lv_ladd hx hb dX4_digest_197 ?_
    refine lv_lstore_n (lv' := [(1, .long ((((v1 * (31 : Int64)) + m_emitted.toInt64) * (31 : Int64)) + m_ignored.toInt64)), (0, .ref (bd 0))]) hx hb dX4_digest_198 rfl hl (by decide) rfl (fun ls hl => ?_)
    refine lv_aload_n hx hb dX4_digest_199 rfl (lv_at hl 1 rfl) ?_
    refine va_get (D := D) (ci := 4) (v := .int m_isCompiled) (C := RX4) (T := TX4) (N := 30) hx hb hts hiX4 hown hK hP 0 rfl rfl 21 (by decide) f90 (fun _ h9 => h9) rfl dX4_digest_200 ?_
    refine lv_if_ne (tgt := 208) hx hb dX4_digest_203 (by decide) (fun hc => ?_) (fun hc => ?_)
    · have hf := pr_f hf hc
      refine lv_lload_n hx hb dX4_digest_208 rfl (lv_at hl 0 rfl) ?_
      refine lv_ldc2 (v := (31 : Int64)) hx hb hown k195 dX4_digest_209 ?_
      refine lv_lmul hx hb dX4_digest_212 ?_
      refine lv_aload_n hx hb dX4_digest_213 rfl (lv_at hl 1 rfl) ?_
      refine va_get (D := D) (ci := 4) (v := .int m_classes) (C := RX4) (T := TX4) (N := 30) hx hb hts hiX4 hown hK hP 0 rfl rfl 22 (by decide) f172 (fun _ h9 => h9) rfl dX4_digest_214 ?_
      refine lv_i2l (v := m_classes.toInt64) hx hb dX4_digest_217 rfl ?_
      refine lv_ladd hx hb dX4_digest_218 ?_
      refine lv_lstore_n (lv' := [(1, .long ((((((v1 * (31 : Int64)) + m_emitted.toInt64) * (31 : Int64)) + m_ignored.toInt64) * (31 : Int64)) + m_classes.toInt64)), (0, .ref (bd 0))]) hx hb dX4_digest_219 rfl hl (by decide) rfl (fun ls hl => ?_)
      refine lv_iconst (v := (0 : Int32)) hx hb dX4_digest_220 (by decide) ?_
      refine lv_istore_n (lv' := [(3, .int (0 : Int32)), (1, .long ((((((v1 * (31 : Int64)) + m_emitted.toInt64) * (31 : Int64)) + m_ignored.toInt64) * (31 : Int64)) + m_classes.toInt64)), (0, .ref (bd 0))]) hx hb dX4_digest_221 rfl hl (by decide) rfl (fun ls hl => ?_)
      exact L222 fu m_thrown ((((((v1 * (31 : Int64)) + m_emitted.toInt64) * (31 : Int64)) + m_ignored.toInt64) * (31 : Int64)) + m_classes.toInt64) (0 : Int32) H locs ls hP hD hS (lv_sub hl [2, 1, 0] rfl) hf
    · have hf := pr_t hf hc
      refine lv_lload_n hx hb dX4_digest_206 rfl (lv_at hl 0 rfl) ?_
      obtain rfl := Option.some.inj hf
      subst hZ
      exact pw_rl hx hb hr hlocks hK hP hD hS (Nat.le_of_ble_eq_true rfl) (Nat.le_of_ble_eq_true rfl) dX4_digest_207
  have L153 : ∀ n153 : Nat, ∀ (m_thrown : Int32) (v1 : Int64) (v3 : Int32) (H : Heap) (locs : List Loc) (ls : Array Slot), va_P D vwCl (MW bd cb m_thrown m_states m_timerEvents m_transitions m_froms m_events m_variables m_relations m_numbers m_nexts m_sizes m_actions m_fired m_state m_time m_values m_runs m_dues m_emitted m_output m_ignored m_isCompiled m_classes m_numbersOf m_offsets m_useds m_tableSize m_owners m_isReached m_areApart) H → va_D A (MW bd cb m_thrown m_states m_timerEvents m_transitions m_froms m_events m_variables m_relations m_numbers m_nexts m_sizes m_actions m_fired m_state m_time m_values m_runs m_dues m_emitted m_output m_ignored m_isCompiled m_classes m_numbersOf m_offsets m_useds m_tableSize m_owners m_isReached m_areApart) → va_S A s.heap H locs → lv_has ls 4 [(0, .ref (bd 0)), (1, .long v1), (3, .int v3)] → X4_digest_L153 fu m_time m_runs m_dues m_emitted m_ignored m_isCompiled m_classes m_offsets n153 m_thrown v1 v3 = some o → W p l e rmX4_digest s m args below meth c H locs 0 0 Z (F0 m 153 ls []) := by
    intro n153
    induction n153 with
    | zero =>
      intro m_thrown v1 v3 H locs ls hP hD hS hl hf
      exact pr_n hf
    | succ n153 ih153 =>
      intro m_thrown v1 v3 H locs ls hP hD hS hl hf
      replace hf : X4_digest_B153 fu m_time m_runs m_dues m_emitted m_ignored m_isCompiled m_classes m_offsets (X4_digest_L153 fu m_time m_runs m_dues m_emitted m_ignored m_isCompiled m_classes m_offsets  n153) m_thrown v1 v3 = some o := hf
      unfold X4_digest_B153 at hf
      refine lv_iload_n hx hb dX4_digest_153 rfl (lv_at hl 2 rfl) ?_
      refine lv_iconst (v := (4 : Int32)) hx hb dX4_digest_154 (by decide) ?_
      refine lv_icmp_ge (tgt := 177) hx hb dX4_digest_155 (by decide) (fun hc => ?_) (fun hc => ?_)
      · have hf := pr_t hf hc
        exact B177 m_thrown v1 H locs ls hP hD hS (lv_sub hl [0, 1] rfl) hf
      · have hf := pr_f hf hc
        refine lv_lload_n hx hb dX4_digest_158 rfl (lv_at hl 1 rfl) ?_
        refine lv_ldc2 (v := (31 : Int64)) hx hb hown k195 dX4_digest_159 ?_
        refine lv_lmul hx hb dX4_digest_162 ?_
        refine lv_aload_n hx hb dX4_digest_163 rfl (lv_at hl 0 rfl) ?_
        refine lv_iload_n hx hb dX4_digest_164 rfl (lv_at hl 2 rfl) ?_
        obtain ⟨x165, hg165, hf⟩ := pr_b hf
        refine pw_cViW (b := bd 0) (As := [.int v3]) (rest := [.long (v1 * (31 : Int64))]) ⟨hx, hb, hml, hown, hts⟩ (c_X4_leftOf (D := D) m_thrown m_states m_timerEvents m_transitions m_froms m_events m_variables m_relations m_numbers m_nexts m_sizes m_actions m_fired m_state m_time m_values m_runs m_dues m_emitted m_output m_ignored m_isCompiled m_classes m_numbersOf m_offsets m_useds m_tableSize m_owners m_isReached m_areApart v3 hg165) (cwV 1 hts gX4_digest_X4_leftOf rfl rfl rfl (by decide +kernel) ⟨Nat.le_of_ble_eq_true rfl, Nat.le_of_ble_eq_true rfl⟩) 0 4 rfl rfl hK hP hD hS hA rfl hl.1 rfl (Nat.le_of_ble_eq_true rfl) dX4_digest_165 ⟨Nat.le_of_ble_eq_true rfl, Nat.le_of_ble_eq_true rfl⟩ (fun H locs hP hD hS => ?_)
        refine lv_i2l (v := x165.toInt64) hx hb dX4_digest_168 rfl ?_
        refine lv_ladd hx hb dX4_digest_169 ?_
        refine lv_lstore_n (lv' := [(1, .long ((v1 * (31 : Int64)) + x165.toInt64)), (0, .ref (bd 0)), (3, .int v3)]) hx hb dX4_digest_170 rfl hl (by decide) rfl (fun ls hl => ?_)
        refine lv_iinc (v := (v3 + (1 : Int32))) (lv' := [(3, .int (v3 + (1 : Int32))), (1, .long ((v1 * (31 : Int64)) + x165.toInt64)), (0, .ref (bd 0))]) hx hb dX4_digest_171 hl (k := 2) rfl rfl (by decide) rfl (fun ls hl => ?_)
        refine lv_goto (tgt := 153) hx hb dX4_digest_174 (by decide) ?_
        exact ih153 m_thrown ((v1 * (31 : Int64)) + x165.toInt64) (v3 + (1 : Int32)) H locs ls hP hD hS (lv_sub hl [2, 1, 0] rfl) hf
  have L126 : ∀ n126 : Nat, ∀ (m_thrown : Int32) (v1 : Int64) (v3 : Int32) (H : Heap) (locs : List Loc) (ls : Array Slot), va_P D vwCl (MW bd cb m_thrown m_states m_timerEvents m_transitions m_froms m_events m_variables m_relations m_numbers m_nexts m_sizes m_actions m_fired m_state m_time m_values m_runs m_dues m_emitted m_output m_ignored m_isCompiled m_classes m_numbersOf m_offsets m_useds m_tableSize m_owners m_isReached m_areApart) H → va_D A (MW bd cb m_thrown m_states m_timerEvents m_transitions m_froms m_events m_variables m_relations m_numbers m_nexts m_sizes m_actions m_fired m_state m_time m_values m_runs m_dues m_emitted m_output m_ignored m_isCompiled m_classes m_numbersOf m_offsets m_useds m_tableSize m_owners m_isReached m_areApart) → va_S A s.heap H locs → lv_has ls 4 [(0, .ref (bd 0)), (1, .long v1), (3, .int v3)] → X4_digest_L126 fu m_time m_values m_runs m_dues m_emitted m_ignored m_isCompiled m_classes m_offsets n126 m_thrown v1 v3 = some o → W p l e rmX4_digest s m args below meth c H locs 0 0 Z (F0 m 126 ls []) := by
    intro n126
    induction n126 with
    | zero =>
      intro m_thrown v1 v3 H locs ls hP hD hS hl hf
      exact pr_n hf
    | succ n126 ih126 =>
      intro m_thrown v1 v3 H locs ls hP hD hS hl hf
      replace hf : X4_digest_B126 fu m_time m_values m_runs m_dues m_emitted m_ignored m_isCompiled m_classes m_offsets (X4_digest_L126 fu m_time m_values m_runs m_dues m_emitted m_ignored m_isCompiled m_classes m_offsets  n126) m_thrown v1 v3 = some o := hf
      unfold X4_digest_B126 at hf
      refine lv_iload_n hx hb dX4_digest_126 rfl (lv_at hl 2 rfl) ?_
      refine lv_iconst (v := (3 : Int32)) hx hb dX4_digest_127 (by decide) ?_
      refine lv_icmp_ge (tgt := 151) hx hb dX4_digest_128 (by decide) (fun hc => ?_) (fun hc => ?_)
      · have hf := pr_t hf hc
        refine lv_iconst (v := (0 : Int32)) hx hb dX4_digest_151 (by decide) ?_
        refine lv_istore_n (lv' := [(3, .int (0 : Int32)), (0, .ref (bd 0)), (1, .long v1)]) hx hb dX4_digest_152 rfl hl (by decide) rfl (fun ls hl => ?_)
        exact L153 fu m_thrown v1 (0 : Int32) H locs ls hP hD hS (lv_sub hl [1, 2, 0] rfl) hf
      · have hf := pr_f hf hc
        refine lv_lload_n hx hb dX4_digest_131 rfl (lv_at hl 1 rfl) ?_
        refine lv_ldc2 (v := (31 : Int64)) hx hb hown k195 dX4_digest_132 ?_
        refine lv_lmul hx hb dX4_digest_135 ?_
        refine lv_aload_n hx hb dX4_digest_136 rfl (lv_at hl 0 rfl) ?_
        refine va_get (D := D) (ci := 4) (v := .ref (bd 11)) (C := RX4) (T := TX4) (N := 30) hx hb hts hiX4 hown hK hP 0 rfl rfl 15 (by decide) f44 (fun _ h9 => h9) rfl dX4_digest_137 ?_
        refine lv_iload_n hx hb dX4_digest_140 rfl (lv_at hl 2 rfl) ?_
        obtain ⟨hi141, hf⟩ := pr_in hf
        refine va_iald hx hb hK hP 11 10 rfl rfl hi141 dX4_digest_141 ?_
        refine lv_i2l (v := (m_values v3.toNatClampNeg).toInt64) hx hb dX4_digest_142 rfl ?_
        refine lv_ladd hx hb dX4_digest_143 ?_
        refine lv_lstore_n (lv' := [(1, .long ((v1 * (31 : Int64)) + (m_values v3.toNatClampNeg).toInt64)), (0, .ref (bd 0)), (3, .int v3)]) hx hb dX4_digest_144 rfl hl (by decide) rfl (fun ls hl => ?_)
        refine lv_iinc (v := (v3 + (1 : Int32))) (lv' := [(3, .int (v3 + (1 : Int32))), (1, .long ((v1 * (31 : Int64)) + (m_values v3.toNatClampNeg).toInt64)), (0, .ref (bd 0))]) hx hb dX4_digest_145 hl (k := 2) rfl rfl (by decide) rfl (fun ls hl => ?_)
        refine lv_goto (tgt := 126) hx hb dX4_digest_148 (by decide) ?_
        exact ih126 m_thrown ((v1 * (31 : Int64)) + (m_values v3.toNatClampNeg).toInt64) (v3 + (1 : Int32)) H locs ls hP hD hS (lv_sub hl [2, 1, 0] rfl) hf
  have B103 : ∀ (m_thrown : Int32) (v1 : Int64) (H : Heap) (locs : List Loc) (ls : Array Slot), va_P D vwCl (MW bd cb m_thrown m_states m_timerEvents m_transitions m_froms m_events m_variables m_relations m_numbers m_nexts m_sizes m_actions m_fired m_state m_time m_values m_runs m_dues m_emitted m_output m_ignored m_isCompiled m_classes m_numbersOf m_offsets m_useds m_tableSize m_owners m_isReached m_areApart) H → va_D A (MW bd cb m_thrown m_states m_timerEvents m_transitions m_froms m_events m_variables m_relations m_numbers m_nexts m_sizes m_actions m_fired m_state m_time m_values m_runs m_dues m_emitted m_output m_ignored m_isCompiled m_classes m_numbersOf m_offsets m_useds m_tableSize m_owners m_isReached m_areApart) → va_S A s.heap H locs → lv_has ls 4 [(0, .ref (bd 0)), (1, .long v1)] → X4_digest_B103 fu m_state m_time m_values m_runs m_dues m_emitted m_ignored m_isCompiled m_classes m_offsets m_thrown v1 = some o → W p l e rmX4_digest s m args below meth c H locs 0 0 Z (F0 m 103 ls []) := by
    intro m_thrown v1 H locs ls hP hD hS hl hf
    unfold X4_digest_B103 at hf
    refine lv_lload_n hx hb dX4_digest_103 rfl (lv_at hl 1 rfl) ?_
    refine lv_ldc2 (v := (31 : Int64)) hx hb hown k195 dX4_digest_104 ?_
    refine lv_lmul hx hb dX4_digest_107 ?_
    refine lv_aload_n hx hb dX4_digest_108 rfl (lv_at hl 0 rfl) ?_
    refine va_get (D := D) (ci := 4) (v := .int m_state) (C := RX4) (T := TX4) (N := 30) hx hb hts hiX4 hown hK hP 0 rfl rfl 13 (by decide) f118 (fun _ h9 => h9) rfl dX4_digest_109 ?_
    refine lv_i2l (v := m_state.toInt64) hx hb dX4_digest_112 rfl ?_
    refine lv_ladd hx hb dX4_digest_113 ?_
    refine lv_ldc2 (v := (31 : Int64)) hx hb hown k195 dX4_digest_114 ?_
    refine lv_lmul hx hb dX4_digest_117 ?_
    refine lv_aload_n hx hb dX4_digest_118 rfl (lv_at hl 0 rfl) ?_
    refine va_get (D := D) (ci := 4) (v := .long m_time) (C := RX4) (T := TX4) (N := 30) hx hb hts hiX4 hown hK hP 0 rfl rfl 14 (by decide) f114 (fun _ h9 => h9) rfl dX4_digest_119 ?_
    refine lv_ladd hx hb dX4_digest_122 ?_
    refine lv_lstore_n (lv' := [(1, .long ((((v1 * (31 : Int64)) + m_state.toInt64) * (31 : Int64)) + m_time)), (0, .ref (bd 0))]) hx hb dX4_digest_123 rfl hl (by decide) rfl (fun ls hl => ?_)
    refine lv_iconst (v := (0 : Int32)) hx hb dX4_digest_124 (by decide) ?_
    refine lv_istore_n (lv' := [(3, .int (0 : Int32)), (1, .long ((((v1 * (31 : Int64)) + m_state.toInt64) * (31 : Int64)) + m_time)), (0, .ref (bd 0))]) hx hb dX4_digest_125 rfl hl (by decide) rfl (fun ls hl => ?_)
    exact L126 fu m_thrown ((((v1 * (31 : Int64)) + m_state.toInt64) * (31 : Int64)) + m_time) (0 : Int32) H locs ls hP hD hS (lv_sub hl [2, 1, 0] rfl) hf
  have L27 : ∀ n27 : Nat, ∀ (m_thrown : Int32) (v1 : Int64) (v3 : Int32) (H : Heap) (locs : List Loc) (ls : Array Slot), va_P D vwCl (MW bd cb m_thrown m_states m_timerEvents m_transitions m_froms m_events m_variables m_relations m_numbers m_nexts m_sizes m_actions m_fired m_state m_time m_values m_runs m_dues m_emitted m_output m_ignored m_isCompiled m_classes m_numbersOf m_offsets m_useds m_tableSize m_owners m_isReached m_areApart) H → va_D A (MW bd cb m_thrown m_states m_timerEvents m_transitions m_froms m_events m_variables m_relations m_numbers m_nexts m_sizes m_actions m_fired m_state m_time m_values m_runs m_dues m_emitted m_output m_ignored m_isCompiled m_classes m_numbersOf m_offsets m_useds m_tableSize m_owners m_isReached m_areApart) → va_S A s.heap H locs → lv_has ls 4 [(0, .ref (bd 0)), (1, .long v1), (3, .int v3)] → X4_digest_L27 fu m_transitions m_froms m_events m_nexts m_sizes m_fired m_state m_time m_values m_runs m_dues m_emitted m_ignored m_isCompiled m_classes m_offsets n27 m_thrown v1 v3 = some o → W p l e rmX4_digest s m args below meth c H locs 0 0 Z (F0 m 27 ls []) := by
    intro n27
    induction n27 with
    | zero =>
      intro m_thrown v1 v3 H locs ls hP hD hS hl hf
      exact pr_n hf
    | succ n27 ih27 =>
      intro m_thrown v1 v3 H locs ls hP hD hS hl hf
      replace hf : X4_digest_B27 fu m_transitions m_froms m_events m_nexts m_sizes m_fired m_state m_time m_values m_runs m_dues m_emitted m_ignored m_isCompiled m_classes m_offsets (X4_digest_L27 fu m_transitions m_froms m_events m_nexts m_sizes m_fired m_state m_time m_values m_runs m_dues m_emitted m_ignored m_isCompiled m_classes m_offsets  n27) m_thrown v1 v3 = some o := hf
      unfold X4_digest_B27 at hf
      refine lv_iload_n hx hb dX4_digest_27 rfl (lv_at hl 2 rfl) ?_
      refine lv_aload_n hx hb dX4_digest_28 rfl (lv_at hl 0 rfl) ?_
      refine va_get (D := D) (ci := 4) (v := .int m_transitions) (C := RX4) (T := TX4) (N := 30) hx hb hts hiX4 hown hK hP 0 rfl rfl 3 (by decide) f83 (fun _ h9 => h9) rfl dX4_digest_29 ?_
      refine lv_icmp_ge (tgt := 103) hx hb dX4_digest_32 (by decide) (fun hc => ?_) (fun hc => ?_)
      · have hf := pr_t hf hc
        exact B103 m_thrown v1 H locs ls hP hD hS (lv_sub hl [0, 1] rfl) hf
      · have hf := pr_f hf hc
        refine lv_lload_n hx hb dX4_digest_35 rfl (lv_at hl 1 rfl) ?_
        refine lv_ldc2 (v := (31 : Int64)) hx hb hown k195 dX4_digest_36 ?_
        refine lv_lmul hx hb dX4_digest_39 ?_
        refine lv_aload_n hx hb dX4_digest_40 rfl (lv_at hl 0 rfl) ?_
        refine va_get (D := D) (ci := 4) (v := .ref (bd 2)) (C := RX4) (T := TX4) (N := 30) hx hb hts hiX4 hown hK hP 0 rfl rfl 4 (by decide) f17 (fun _ h9 => h9) rfl dX4_digest_41 ?_
        refine lv_iload_n hx hb dX4_digest_44 rfl (lv_at hl 2 rfl) ?_
        obtain ⟨hi45, hf⟩ := pr_in hf
        refine va_iald hx hb hK hP 2 1 rfl rfl hi45 dX4_digest_45 ?_
        refine lv_i2l (v := (m_froms v3.toNatClampNeg).toInt64) hx hb dX4_digest_46 rfl ?_
        refine lv_ladd hx hb dX4_digest_47 ?_
        refine lv_ldc2 (v := (31 : Int64)) hx hb hown k195 dX4_digest_48 ?_
        refine lv_lmul hx hb dX4_digest_51 ?_
        refine lv_aload_n hx hb dX4_digest_52 rfl (lv_at hl 0 rfl) ?_
        refine va_get (D := D) (ci := 4) (v := .ref (bd 3)) (C := RX4) (T := TX4) (N := 30) hx hb hts hiX4 hown hK hP 0 rfl rfl 5 (by decide) f20 (fun _ h9 => h9) rfl dX4_digest_53 ?_
        refine lv_iload_n hx hb dX4_digest_56 rfl (lv_at hl 2 rfl) ?_
        refine va_iald hx hb hK hP 3 2 rfl rfl hi45 dX4_digest_57 ?_
        refine lv_i2l (v := (m_events v3.toNatClampNeg).toInt64) hx hb dX4_digest_58 rfl ?_
        refine lv_ladd hx hb dX4_digest_59 ?_
        refine lv_ldc2 (v := (31 : Int64)) hx hb hown k195 dX4_digest_60 ?_
        refine lv_lmul hx hb dX4_digest_63 ?_
        refine lv_aload_n hx hb dX4_digest_64 rfl (lv_at hl 0 rfl) ?_
        refine va_get (D := D) (ci := 4) (v := .ref (bd 7)) (C := RX4) (T := TX4) (N := 30) hx hb hts hiX4 hown hK hP 0 rfl rfl 9 (by decide) f32 (fun _ h9 => h9) rfl dX4_digest_65 ?_
        refine lv_iload_n hx hb dX4_digest_68 rfl (lv_at hl 2 rfl) ?_
        refine va_iald hx hb hK hP 7 6 rfl rfl hi45 dX4_digest_69 ?_
        refine lv_i2l (v := (m_nexts v3.toNatClampNeg).toInt64) hx hb dX4_digest_70 rfl ?_
        refine lv_ladd hx hb dX4_digest_71 ?_
        refine lv_ldc2 (v := (31 : Int64)) hx hb hown k195 dX4_digest_72 ?_
        refine lv_lmul hx hb dX4_digest_75 ?_
        refine lv_aload_n hx hb dX4_digest_76 rfl (lv_at hl 0 rfl) ?_
        refine va_get (D := D) (ci := 4) (v := .ref (bd 8)) (C := RX4) (T := TX4) (N := 30) hx hb hts hiX4 hown hK hP 0 rfl rfl 10 (by decide) f35 (fun _ h9 => h9) rfl dX4_digest_77 ?_
        refine lv_iload_n hx hb dX4_digest_80 rfl (lv_at hl 2 rfl) ?_
        refine va_iald hx hb hK hP 8 7 rfl rfl hi45 dX4_digest_81 ?_
        refine lv_i2l (v := (m_sizes v3.toNatClampNeg).toInt64) hx hb dX4_digest_82 rfl ?_
        refine lv_ladd hx hb dX4_digest_83 ?_
        refine lv_ldc2 (v := (31 : Int64)) hx hb hown k195 dX4_digest_84 ?_
        refine lv_lmul hx hb dX4_digest_87 ?_
        refine lv_aload_n hx hb dX4_digest_88 rfl (lv_at hl 0 rfl) ?_
        refine va_get (D := D) (ci := 4) (v := .ref (bd 10)) (C := RX4) (T := TX4) (N := 30) hx hb hts hiX4 hown hK hP 0 rfl rfl 12 (by decide) f41 (fun _ h9 => h9) rfl dX4_digest_89 ?_
        refine lv_iload_n hx hb dX4_digest_92 rfl (lv_at hl 2 rfl) ?_
        refine va_iald hx hb hK hP 10 9 rfl rfl hi45 dX4_digest_93 ?_
        refine lv_i2l (v := (m_fired v3.toNatClampNeg).toInt64) hx hb dX4_digest_94 rfl ?_
        refine lv_ladd hx hb dX4_digest_95 ?_
        refine lv_lstore_n (lv' := [(1, .long ((((((((((v1 * (31 : Int64)) + (m_froms v3.toNatClampNeg).toInt64) * (31 : Int64)) + (m_events v3.toNatClampNeg).toInt64) * (31 : Int64)) + (m_nexts v3.toNatClampNeg).toInt64) * (31 : Int64)) + (m_sizes v3.toNatClampNeg).toInt64) * (31 : Int64)) + (m_fired v3.toNatClampNeg).toInt64)), (0, .ref (bd 0)), (3, .int v3)]) hx hb dX4_digest_96 rfl hl (by decide) rfl (fun ls hl => ?_)
        refine lv_iinc (v := (v3 + (1 : Int32))) (lv' := [(3, .int (v3 + (1 : Int32))), (1, .long ((((((((((v1 * (31 : Int64)) + (m_froms v3.toNatClampNeg).toInt64) * (31 : Int64)) + (m_events v3.toNatClampNeg).toInt64) * (31 : Int64)) + (m_nexts v3.toNatClampNeg).toInt64) * (31 : Int64)) + (m_sizes v3.toNatClampNeg).toInt64) * (31 : Int64)) + (m_fired v3.toNatClampNeg).toInt64)), (0, .ref (bd 0))]) hx hb dX4_digest_97 hl (k := 2) rfl rfl (by decide) rfl (fun ls hl => ?_)
        refine lv_goto (tgt := 27) hx hb dX4_digest_100 (by decide) ?_
        exact ih27 m_thrown ((((((((((v1 * (31 : Int64)) + (m_froms v3.toNatClampNeg).toInt64) * (31 : Int64)) + (m_events v3.toNatClampNeg).toInt64) * (31 : Int64)) + (m_nexts v3.toNatClampNeg).toInt64) * (31 : Int64)) + (m_sizes v3.toNatClampNeg).toInt64) * (31 : Int64)) + (m_fired v3.toNatClampNeg).toInt64) (v3 + (1 : Int32)) H locs ls hP hD hS (lv_sub hl [2, 1, 0] rfl) hf
  unfold X4_digest at hf
  refine lv_aload_n hx hb dX4_digest_0 rfl (lv_at hl 0 rfl) ?_
  refine lv_iconst (v := (0 : Int32)) hx hb dX4_digest_1 (by decide) ?_
  refine va_put (D := D) (ci := 4) (v := .int (0 : Int32)) (ty := .int) (C := RX4) (T := TX4) (N := 30) hx hb hts hiX4 tyX4 tyX4_ok nmX4 hown hK hP hD hS 0 rfl rfl 0 (by decide) f76 (fun _ h9 => h9) rfl (by decide +kernel) rfl rfl (Nat.le_of_ble_eq_true rfl) dX4_digest_2 (fun H locs hP hD hS => ?_)
  have hP : va_P D vwCl (MW bd cb (0 : Int32) m_states m_timerEvents m_transitions m_froms m_events m_variables m_relations m_numbers m_nexts m_sizes m_actions m_fired m_state m_time m_values m_runs m_dues m_emitted m_output m_ignored m_isCompiled m_classes m_numbersOf m_offsets m_useds m_tableSize m_owners m_isReached m_areApart) H := hP
  have hD : va_D A (MW bd cb (0 : Int32) m_states m_timerEvents m_transitions m_froms m_events m_variables m_relations m_numbers m_nexts m_sizes m_actions m_fired m_state m_time m_values m_runs m_dues m_emitted m_output m_ignored m_isCompiled m_classes m_numbersOf m_offsets m_useds m_tableSize m_owners m_isReached m_areApart) := hD
  refine lv_ldc2 (v := (3937 : Int64)) hx hb hown k193 dX4_digest_5 ?_
  refine lv_aload_n hx hb dX4_digest_8 rfl (lv_at hl 0 rfl) ?_
  refine va_get (D := D) (ci := 4) (v := .int m_states) (C := RX4) (T := TX4) (N := 30) hx hb hts hiX4 hown hK hP 0 rfl rfl 1 (by decide) f7 (fun _ h9 => h9) rfl dX4_digest_9 ?_
  refine lv_i2l (v := m_states.toInt64) hx hb dX4_digest_12 rfl ?_
  refine lv_ladd hx hb dX4_digest_13 ?_
  refine lv_ldc2 (v := (31 : Int64)) hx hb hown k195 dX4_digest_14 ?_
  refine lv_lmul hx hb dX4_digest_17 ?_
  refine lv_aload_n hx hb dX4_digest_18 rfl (lv_at hl 0 rfl) ?_
  refine va_get (D := D) (ci := 4) (v := .int m_transitions) (C := RX4) (T := TX4) (N := 30) hx hb hts hiX4 hown hK hP 0 rfl rfl 3 (by decide) f83 (fun _ h9 => h9) rfl dX4_digest_19 ?_
  refine lv_i2l (v := m_transitions.toInt64) hx hb dX4_digest_22 rfl ?_
  refine lv_ladd hx hb dX4_digest_23 ?_
  refine lv_lstore_n (lv' := [(1, .long ((((3937 : Int64) + m_states.toInt64) * (31 : Int64)) + m_transitions.toInt64)), (0, .ref (bd 0))]) hx hb dX4_digest_24 rfl hl (by decide) rfl (fun ls hl => ?_)
  refine lv_iconst (v := (0 : Int32)) hx hb dX4_digest_25 (by decide) ?_
  refine lv_istore_n (lv' := [(3, .int (0 : Int32)), (1, .long ((((3937 : Int64) + m_states.toInt64) * (31 : Int64)) + m_transitions.toInt64)), (0, .ref (bd 0))]) hx hb dX4_digest_26 rfl hl (by decide) rfl (fun ls hl => ?_)
  exact L27 fu (0 : Int32) ((((3937 : Int64) + m_states.toInt64) * (31 : Int64)) + m_transitions.toInt64) (0 : Int32) H locs ls hP hD hS (lv_sub hl [2, 1, 0] rfl) hf
