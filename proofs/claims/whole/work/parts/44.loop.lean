/-! the law's loop, purely -/
theorem law_pure {sl fu : Nat} (hs2 : sl ≤ 3584) (hfu : 5000 ≤ fu) (xs : Nat → Int32) : ∀ n i : Nat, i ≤ 512 → 513 ≤ n + i → ∀ (c_states c_transitions : Int32) (c_timerEvent c_from c_event c_next c_variable c_relation c_number c_actions c_kind c_a c_b : Nat → Int32) (c_present : Int32) (c_now : Int64) (c_emits c_kept c_ignores : Int32) (c_values : Nat → Int32) (c_due : Nat → Int64) (c_outputs c_fired : Nat → Int32) (c_made c_classes c_size c_taken : Int32) (c_stateClass c_finerClass c_usedBits c_offsets c_owners : Nat → Int32) (m_thrown m_states : Int32) (m_timerEvents : Nat → Int32) (m_transitions : Int32) (m_froms m_events m_variables m_relations m_numbers m_nexts m_sizes m_actions m_fired : Nat → Int32) (m_state : Int32) (m_time : Int64) (m_values m_runs : Nat → Int32) (m_dues : Nat → Int64) (m_emitted : Int32) (m_output : Nat → Int32) (m_ignored m_isCompiled m_classes : Int32) (m_numbersOf m_offsets m_useds : Nat → Int32) (m_tableSize : Int32) (m_owners m_isReached m_areApart : Nat → Int32) (l_out : Nat → Int64) (l_outD : Nat → UInt64), RG i c_states c_transitions c_timerEvent c_from c_event c_next c_variable c_relation c_number c_actions c_kind c_a c_b c_present c_now c_emits c_kept c_ignores c_values c_due c_outputs c_fired c_made c_classes c_size c_taken c_stateClass c_finerClass c_usedBits c_offsets c_owners m_thrown m_states m_timerEvents m_transitions m_froms m_events m_variables m_relations m_numbers m_nexts m_sizes m_actions m_fired m_state m_time m_values m_runs m_dues m_emitted m_output m_ignored m_isCompiled m_classes m_numbersOf m_offsets m_useds m_tableSize m_owners m_isReached m_areApart l_out l_outD → L_law_L28 fu sl xs n c_states c_transitions c_timerEvent c_from c_event c_next c_variable c_relation c_number c_actions c_kind c_a c_b c_present c_now c_emits c_kept c_ignores c_values c_due c_outputs c_fired c_made c_classes c_size c_taken c_stateClass c_finerClass c_usedBits c_offsets c_owners m_thrown m_states m_timerEvents m_transitions m_froms m_events m_variables m_relations m_numbers m_nexts m_sizes m_actions m_fired m_state m_time m_values m_runs m_dues m_emitted m_output m_ignored m_isCompiled m_classes m_numbersOf m_offsets m_useds m_tableSize m_owners m_isReached m_areApart l_out l_outD (nI (7 * i)) = some 1 := by
  intro n
  induction n with
  | zero => intro i h1 h2; omega
  | succ n ih =>
    intro i h1 h2 c_states c_transitions c_timerEvent c_from c_event c_next c_variable c_relation c_number c_actions c_kind c_a c_b c_present c_now c_emits c_kept c_ignores c_values c_due c_outputs c_fired c_made c_classes c_size c_taken c_stateClass c_finerClass c_usedBits c_offsets c_owners m_thrown m_states m_timerEvents m_transitions m_froms m_events m_variables m_relations m_numbers m_nexts m_sizes m_actions m_fired m_state m_time m_values m_runs m_dues m_emitted m_output m_ignored m_isCompiled m_classes m_numbersOf m_offsets m_useds m_tableSize m_owners m_isReached m_areApart l_out l_outD h
    show L_law_B28 fu sl xs (L_law_L28 fu sl xs n) c_states c_transitions c_timerEvent c_from c_event c_next c_variable c_relation c_number c_actions c_kind c_a c_b c_present c_now c_emits c_kept c_ignores c_values c_due c_outputs c_fired c_made c_classes c_size c_taken c_stateClass c_finerClass c_usedBits c_offsets c_owners m_thrown m_states m_timerEvents m_transitions m_froms m_events m_variables m_relations m_numbers m_nexts m_sizes m_actions m_fired m_state m_time m_values m_runs m_dues m_emitted m_output m_ignored m_isCompiled m_classes m_numbersOf m_offsets m_useds m_tableSize m_owners m_isReached m_areApart l_out l_outD (nI (7 * i)) = some 1
    unfold L_law_B28
    have hti : (Int32.ofNat sl - 7).toInt = (sl : Int) - 7 := by
      have q1 : (Int32.ofNat sl).toInt = (sl : Int) := nI_toInt (n := sl) (by omega)
      have q7 : (7 : Int32).toInt = 7 := by decide
      rw [ti_sub (by rw [q1, q7]; omega) (by rw [q1, q7]; omega), q1, q7]
    have hvi : (nI (7 * i)).toInt = ((7 * i : Nat) : Int) := nI_toInt (by omega)
    by_cases hs1 : 7 * i + 7 ≤ sl
    · have hi : i < 512 := by omega
      rw [if_neg (by rw [ti_lt, hti, hvi]; omega), ix_ok (show 7 * i < sl by omega) (by omega)]
      have hN : NX i (L_law_L28 fu sl xs n) (nI (7 * i)) := by
        intro c_states c_transitions c_timerEvent c_from c_event c_next c_variable c_relation c_number c_actions c_kind c_a c_b c_present c_now c_emits c_kept c_ignores c_values c_due c_outputs c_fired c_made c_classes c_size c_taken c_stateClass c_finerClass c_usedBits c_offsets c_owners m_thrown m_states m_timerEvents m_transitions m_froms m_events m_variables m_relations m_numbers m_nexts m_sizes m_actions m_fired m_state m_time m_values m_runs m_dues m_emitted m_output m_ignored m_isCompiled m_classes m_numbersOf m_offsets m_useds m_tableSize m_owners m_isReached m_areApart l_out l_outD h
        unfold L_law_B1403
        have h7 : nI (7 * i) + 7 = nI (7 * (i + 1)) := nI_add (7 * i) 7
        rw [h7]
        exact ih (i + 1) (by omega) (by omega) _ _ _ _ _ _ _ _ _ _ _ _ _ _ _ _ _ _ _ _ _ _ _ _ _ _ _ _ _ _ _ _ _ _ _ _ _ _ _ _ _ _ _ _ _ _ _ _ _ _ _ _ _ _ _ _ _ _ _ _ _ _ _  h
      by_cases k0 : xs (nI (7 * i)).toNatClampNeg &&& 31 = (0 : Int32)
      · rw [if_pos k0]
        exact op_172 (xs := xs) _ _ _ _ _ _ _ _ _ _ _ _ _ _ _ _ _ _ _ _ _ _ _ _ _ _ _ _ _ _ _ _ _ _ _ _ _ _ _ _ _ _ _ _ _ _ _ _ _ _ _ _ _ _ _ _ _ _ _ _ _ _ _ hfu hi rfl hs1 hs2 hN h
      rw [if_neg k0]
      by_cases k1 : xs (nI (7 * i)).toNatClampNeg &&& 31 = (1 : Int32)
      · rw [if_pos k1]
        exact op_216 (xs := xs) _ _ _ _ _ _ _ _ _ _ _ _ _ _ _ _ _ _ _ _ _ _ _ _ _ _ _ _ _ _ _ _ _ _ _ _ _ _ _ _ _ _ _ _ _ _ _ _ _ _ _ _ _ _ _ _ _ _ _ _ _ _ _ hfu hi rfl hs1 hs2 hN h
      rw [if_neg k1]
      by_cases k2 : xs (nI (7 * i)).toNatClampNeg &&& 31 = (2 : Int32)
      · rw [if_pos k2]
        exact op_334 (xs := xs) _ _ _ _ _ _ _ _ _ _ _ _ _ _ _ _ _ _ _ _ _ _ _ _ _ _ _ _ _ _ _ _ _ _ _ _ _ _ _ _ _ _ _ _ _ _ _ _ _ _ _ _ _ _ _ _ _ _ _ _ _ _ _ hfu hi rfl hs1 hs2 hN h
      rw [if_neg k2]
      by_cases k3 : xs (nI (7 * i)).toNatClampNeg &&& 31 = (3 : Int32)
      · rw [if_pos k3]
        exact op_426 (xs := xs) _ _ _ _ _ _ _ _ _ _ _ _ _ _ _ _ _ _ _ _ _ _ _ _ _ _ _ _ _ _ _ _ _ _ _ _ _ _ _ _ _ _ _ _ _ _ _ _ _ _ _ _ _ _ _ _ _ _ _ _ _ _ _ hfu hi rfl hs1 hs2 hN h
      rw [if_neg k3]
      by_cases k4 : xs (nI (7 * i)).toNatClampNeg &&& 31 = (4 : Int32)
      · rw [if_pos k4]
        exact op_470 (xs := xs) _ _ _ _ _ _ _ _ _ _ _ _ _ _ _ _ _ _ _ _ _ _ _ _ _ _ _ _ _ _ _ _ _ _ _ _ _ _ _ _ _ _ _ _ _ _ _ _ _ _ _ _ _ _ _ _ _ _ _ _ _ _ _ hfu hi rfl hs1 hs2 hN h
      rw [if_neg k4]
      by_cases k5 : xs (nI (7 * i)).toNatClampNeg &&& 31 = (5 : Int32)
      · rw [if_pos k5]
        exact op_538 (xs := xs) _ _ _ _ _ _ _ _ _ _ _ _ _ _ _ _ _ _ _ _ _ _ _ _ _ _ _ _ _ _ _ _ _ _ _ _ _ _ _ _ _ _ _ _ _ _ _ _ _ _ _ _ _ _ _ _ _ _ _ _ _ _ _ hfu hi rfl hs1 hs2 hN h
      rw [if_neg k5]
      by_cases k6 : xs (nI (7 * i)).toNatClampNeg &&& 31 = (6 : Int32)
      · rw [if_pos k6]
        exact op_551 (xs := xs) _ _ _ _ _ _ _ _ _ _ _ _ _ _ _ _ _ _ _ _ _ _ _ _ _ _ _ _ _ _ _ _ _ _ _ _ _ _ _ _ _ _ _ _ _ _ _ _ _ _ _ _ _ _ _ _ _ _ _ _ _ _ _ hfu hi rfl hs1 hs2 hN h
      rw [if_neg k6]
      by_cases k7 : xs (nI (7 * i)).toNatClampNeg &&& 31 = (7 : Int32)
      · rw [if_pos k7]
        exact op_564 (xs := xs) _ _ _ _ _ _ _ _ _ _ _ _ _ _ _ _ _ _ _ _ _ _ _ _ _ _ _ _ _ _ _ _ _ _ _ _ _ _ _ _ _ _ _ _ _ _ _ _ _ _ _ _ _ _ _ _ _ _ _ _ _ _ _ hfu hi rfl hs1 hs2 hN h
      rw [if_neg k7]
      by_cases k8 : xs (nI (7 * i)).toNatClampNeg &&& 31 = (8 : Int32)
      · rw [if_pos k8]
        exact op_627 (xs := xs) _ _ _ _ _ _ _ _ _ _ _ _ _ _ _ _ _ _ _ _ _ _ _ _ _ _ _ _ _ _ _ _ _ _ _ _ _ _ _ _ _ _ _ _ _ _ _ _ _ _ _ _ _ _ _ _ _ _ _ _ _ _ _ hfu hi rfl hs1 hs2 hN h
      rw [if_neg k8]
      by_cases k9 : xs (nI (7 * i)).toNatClampNeg &&& 31 = (9 : Int32)
      · rw [if_pos k9]
        exact op_641 (xs := xs) _ _ _ _ _ _ _ _ _ _ _ _ _ _ _ _ _ _ _ _ _ _ _ _ _ _ _ _ _ _ _ _ _ _ _ _ _ _ _ _ _ _ _ _ _ _ _ _ _ _ _ _ _ _ _ _ _ _ _ _ _ _ _ hfu hi rfl hs1 hs2 hN h
      rw [if_neg k9]
      by_cases k10 : xs (nI (7 * i)).toNatClampNeg &&& 31 = (10 : Int32)
      · rw [if_pos k10]
        exact op_697 (xs := xs) _ _ _ _ _ _ _ _ _ _ _ _ _ _ _ _ _ _ _ _ _ _ _ _ _ _ _ _ _ _ _ _ _ _ _ _ _ _ _ _ _ _ _ _ _ _ _ _ _ _ _ _ _ _ _ _ _ _ _ _ _ _ _ hfu hi rfl hs1 hs2 hN h
      rw [if_neg k10]
      by_cases k11 : xs (nI (7 * i)).toNatClampNeg &&& 31 = (11 : Int32)
      · rw [if_pos k11]
        exact op_753 (xs := xs) _ _ _ _ _ _ _ _ _ _ _ _ _ _ _ _ _ _ _ _ _ _ _ _ _ _ _ _ _ _ _ _ _ _ _ _ _ _ _ _ _ _ _ _ _ _ _ _ _ _ _ _ _ _ _ _ _ _ _ _ _ _ _ hfu hi rfl hs1 hs2 hN h
      rw [if_neg k11]
      by_cases k12 : xs (nI (7 * i)).toNatClampNeg &&& 31 = (12 : Int32)
      · rw [if_pos k12]
        exact op_766 (xs := xs) _ _ _ _ _ _ _ _ _ _ _ _ _ _ _ _ _ _ _ _ _ _ _ _ _ _ _ _ _ _ _ _ _ _ _ _ _ _ _ _ _ _ _ _ _ _ _ _ _ _ _ _ _ _ _ _ _ _ _ _ _ _ _ hfu hi rfl hs1 hs2 hN h
      rw [if_neg k12]
      by_cases k13 : xs (nI (7 * i)).toNatClampNeg &&& 31 = (13 : Int32)
      · rw [if_pos k13]
        exact op_780 (xs := xs) _ _ _ _ _ _ _ _ _ _ _ _ _ _ _ _ _ _ _ _ _ _ _ _ _ _ _ _ _ _ _ _ _ _ _ _ _ _ _ _ _ _ _ _ _ _ _ _ _ _ _ _ _ _ _ _ _ _ _ _ _ _ _ hfu hi rfl hs1 hs2 hN h
      rw [if_neg k13]
      by_cases k14 : xs (nI (7 * i)).toNatClampNeg &&& 31 = (14 : Int32)
      · rw [if_pos k14]
        exact op_836 (xs := xs) _ _ _ _ _ _ _ _ _ _ _ _ _ _ _ _ _ _ _ _ _ _ _ _ _ _ _ _ _ _ _ _ _ _ _ _ _ _ _ _ _ _ _ _ _ _ _ _ _ _ _ _ _ _ _ _ _ _ _ _ _ _ _ hfu hi rfl hs1 hs2 hN h
      rw [if_neg k14]
      by_cases k15 : xs (nI (7 * i)).toNatClampNeg &&& 31 = (15 : Int32)
      · rw [if_pos k15]
        exact op_892 (xs := xs) _ _ _ _ _ _ _ _ _ _ _ _ _ _ _ _ _ _ _ _ _ _ _ _ _ _ _ _ _ _ _ _ _ _ _ _ _ _ _ _ _ _ _ _ _ _ _ _ _ _ _ _ _ _ _ _ _ _ _ _ _ _ _ hfu hi rfl hs1 hs2 hN h
      rw [if_neg k15]
      by_cases k16 : xs (nI (7 * i)).toNatClampNeg &&& 31 = (16 : Int32)
      · rw [if_pos k16]
        exact op_905 (xs := xs) _ _ _ _ _ _ _ _ _ _ _ _ _ _ _ _ _ _ _ _ _ _ _ _ _ _ _ _ _ _ _ _ _ _ _ _ _ _ _ _ _ _ _ _ _ _ _ _ _ _ _ _ _ _ _ _ _ _ _ _ _ _ _ hfu hi rfl hs1 hs2 hN h
      rw [if_neg k16]
      by_cases k17 : xs (nI (7 * i)).toNatClampNeg &&& 31 = (17 : Int32)
      · rw [if_pos k17]
        exact op_961 (xs := xs) _ _ _ _ _ _ _ _ _ _ _ _ _ _ _ _ _ _ _ _ _ _ _ _ _ _ _ _ _ _ _ _ _ _ _ _ _ _ _ _ _ _ _ _ _ _ _ _ _ _ _ _ _ _ _ _ _ _ _ _ _ _ _ hfu hi rfl hs1 hs2 hN h
      rw [if_neg k17]
      by_cases k18 : xs (nI (7 * i)).toNatClampNeg &&& 31 = (18 : Int32)
      · rw [if_pos k18]
        exact op_1017 (xs := xs) _ _ _ _ _ _ _ _ _ _ _ _ _ _ _ _ _ _ _ _ _ _ _ _ _ _ _ _ _ _ _ _ _ _ _ _ _ _ _ _ _ _ _ _ _ _ _ _ _ _ _ _ _ _ _ _ _ _ _ _ _ _ _ hfu hi rfl hs1 hs2 hN h
      rw [if_neg k18]
      by_cases k19 : xs (nI (7 * i)).toNatClampNeg &&& 31 = (19 : Int32)
      · rw [if_pos k19]
        exact op_1030 (xs := xs) _ _ _ _ _ _ _ _ _ _ _ _ _ _ _ _ _ _ _ _ _ _ _ _ _ _ _ _ _ _ _ _ _ _ _ _ _ _ _ _ _ _ _ _ _ _ _ _ _ _ _ _ _ _ _ _ _ _ _ _ _ _ _ hfu hi rfl hs1 hs2 hN h
      rw [if_neg k19]
      by_cases k20 : xs (nI (7 * i)).toNatClampNeg &&& 31 = (20 : Int32)
      · rw [if_pos k20]
        exact op_1043 (xs := xs) _ _ _ _ _ _ _ _ _ _ _ _ _ _ _ _ _ _ _ _ _ _ _ _ _ _ _ _ _ _ _ _ _ _ _ _ _ _ _ _ _ _ _ _ _ _ _ _ _ _ _ _ _ _ _ _ _ _ _ _ _ _ _ hfu hi rfl hs1 hs2 hN h
      rw [if_neg k20]
      by_cases k21 : xs (nI (7 * i)).toNatClampNeg &&& 31 = (21 : Int32)
      · rw [if_pos k21]
        exact op_1056 (xs := xs) _ _ _ _ _ _ _ _ _ _ _ _ _ _ _ _ _ _ _ _ _ _ _ _ _ _ _ _ _ _ _ _ _ _ _ _ _ _ _ _ _ _ _ _ _ _ _ _ _ _ _ _ _ _ _ _ _ _ _ _ _ _ _ hfu hi rfl hs1 hs2 hN h
      rw [if_neg k21]
      by_cases k22 : xs (nI (7 * i)).toNatClampNeg &&& 31 = (22 : Int32)
      · rw [if_pos k22]
        exact op_1112 (xs := xs) _ _ _ _ _ _ _ _ _ _ _ _ _ _ _ _ _ _ _ _ _ _ _ _ _ _ _ _ _ _ _ _ _ _ _ _ _ _ _ _ _ _ _ _ _ _ _ _ _ _ _ _ _ _ _ _ _ _ _ _ _ _ _ hfu hi rfl hs1 hs2 hN h
      rw [if_neg k22]
      by_cases k23 : xs (nI (7 * i)).toNatClampNeg &&& 31 = (23 : Int32)
      · rw [if_pos k23]
        exact op_1168 (xs := xs) _ _ _ _ _ _ _ _ _ _ _ _ _ _ _ _ _ _ _ _ _ _ _ _ _ _ _ _ _ _ _ _ _ _ _ _ _ _ _ _ _ _ _ _ _ _ _ _ _ _ _ _ _ _ _ _ _ _ _ _ _ _ _ hfu hi rfl hs1 hs2 hN h
      rw [if_neg k23]
      by_cases k24 : xs (nI (7 * i)).toNatClampNeg &&& 31 = (24 : Int32)
      · rw [if_pos k24]
        exact op_1224 (xs := xs) _ _ _ _ _ _ _ _ _ _ _ _ _ _ _ _ _ _ _ _ _ _ _ _ _ _ _ _ _ _ _ _ _ _ _ _ _ _ _ _ _ _ _ _ _ _ _ _ _ _ _ _ _ _ _ _ _ _ _ _ _ _ _ hfu hi rfl hs1 hs2 hN h
      rw [if_neg k24]
      by_cases k25 : xs (nI (7 * i)).toNatClampNeg &&& 31 = (25 : Int32)
      · rw [if_pos k25]
        exact op_1268 (xs := xs) _ _ _ _ _ _ _ _ _ _ _ _ _ _ _ _ _ _ _ _ _ _ _ _ _ _ _ _ _ _ _ _ _ _ _ _ _ _ _ _ _ _ _ _ _ _ _ _ _ _ _ _ _ _ _ _ _ _ _ _ _ _ _ hfu hi rfl hs1 hs2 hN h
      rw [if_neg k25]
      by_cases k26 : xs (nI (7 * i)).toNatClampNeg &&& 31 = (26 : Int32)
      · rw [if_pos k26]
        exact op_1324 (xs := xs) _ _ _ _ _ _ _ _ _ _ _ _ _ _ _ _ _ _ _ _ _ _ _ _ _ _ _ _ _ _ _ _ _ _ _ _ _ _ _ _ _ _ _ _ _ _ _ _ _ _ _ _ _ _ _ _ _ _ _ _ _ _ _ hfu hi rfl hs1 hs2 hN h
      rw [if_neg k26]
      by_cases k27 : xs (nI (7 * i)).toNatClampNeg &&& 31 = (27 : Int32)
      · rw [if_pos k27]
        exact op_1389 (xs := xs) _ _ _ _ _ _ _ _ _ _ _ _ _ _ _ _ _ _ _ _ _ _ _ _ _ _ _ _ _ _ _ _ _ _ _ _ _ _ _ _ _ _ _ _ _ _ _ _ _ _ _ _ _ _ _ _ _ _ _ _ _ _ _ hfu hi rfl hs1 hs2 hN h
      rw [if_neg k27]
      obtain ⟨S, T, g1, g2, g3⟩ := h
      exact hN _ _ _ _ _ _ _ _ _ _ _ _ _ _ _ _ _ _ _ _ _ _ _ _ _ _ _ _ _ _ _ _ _ _ _ _ _ _ _ _ _ _ _ _ _ _ _ _ _ _ _ _ _ _ _ _ _ _ _ _ _ _ _ ⟨S, T, g1, REe_up g2, g3⟩
    · rw [if_pos (by rw [ti_lt, hti, hvi]; omega)]
