/-! an event happens -/
/-- a transition, as the two sides hold it -/
def rowR (S t : Nat) (c_from c_event c_next c_variable c_relation c_number c_actions c_kind c_a c_b m_froms m_events m_variables m_relations m_numbers m_nexts m_sizes m_actions : Nat → Int32) : Prop :=
  (∃ s, s < S ∧ c_from t = nI s ∧ m_froms t = nI s) ∧ (∃ e, e < 8 ∧ c_event t = nI e ∧ m_events t = nI e) ∧ (∃ s, s < S ∧ c_next t = nI s ∧ m_nexts t = nI s) ∧ m_variables t = c_variable t ∧ m_relations t = c_relation t ∧ m_numbers t = c_number t ∧ gok (c_variable t) (c_relation t) (c_number t) ∧
  ∃ k, k ≤ 3 ∧ c_actions t = nI k ∧ m_sizes t = nI k ∧ ∀ j, j < k → m_actions (3 * (3 * t + j)) = c_kind (3 * t + j) ∧ m_actions (3 * (3 * t + j) + 1) = c_a (3 * t + j) ∧ m_actions (3 * (3 * t + j) + 2) = c_b (3 * t + j) ∧ aok (c_kind (3 * t + j)) (c_a (3 * t + j)) (c_b (3 * t + j))
theorem i3 : (3 : Int32) = nI 3 := rfl
theorem i2 : (2 : Int32) = nI 2 := rfl
theorem i1 : (1 : Int32) = nI 1 := rfl
theorem acts_sim {S t tm : Nat} (ht : t < 40) (htm : tm < 2 ^ 29) {c_from c_event c_next c_variable c_relation c_number c_actions c_kind c_a c_b m_froms m_events m_variables m_relations m_numbers m_nexts m_sizes m_actions : Nat → Int32} (c_fired m_fired : Nat → Int32) (c_ignores m_ignored : Int32) (hR : rowR S t c_from c_event c_next c_variable c_relation c_number c_actions c_kind c_a c_b m_froms m_events m_variables m_relations m_numbers m_nexts m_sizes m_actions) :
    ∀ (n n' j : Nat) (d : Nat → Nat) (E : Nat) (c_emits c_kept : Int32) (c_values : Nat → Int32) (c_due : Nat → Int64) (c_outputs m_values m_runs : Nat → Int32) (m_dues : Nat → Int64) (m_emitted : Int32) (m_output : Nat → Int32), E + (3 - j) < 2 ^ 30 → j ≤ 3 → nI j ≤ c_actions t → 3 - j < n → 3 - j < n' → RX d E c_emits c_kept c_values c_due c_outputs m_values m_runs m_dues m_emitted m_output →
    ∃ (em kp : Int32) (va : Nat → Int32) (du : Nat → Int64) (ou mva ru : Nat → Int32) (mdu : Nat → Int64) (me : Int32) (mo : Nat → Int32) (d' : Nat → Nat) (E' : Nat), X0_react_L35 c_next c_actions c_kind c_a c_b (lN tm) c_ignores n c_emits c_kept c_values c_due c_outputs c_fired (nI t) (nI j) = some (nI t, c_next t, em, kp, c_ignores, va, du, ou, c_fired) ∧ X4_fire_L67 m_nexts m_sizes m_actions m_fired (lN tm) m_ignored n' m_values m_runs m_dues m_emitted m_output (nI t) (nI j) = some (nI t, upd m_fired t (m_fired t + 1), m_nexts t, mva, ru, mdu, me, mo, m_ignored) ∧ RX d' E' em kp va du ou mva ru mdu me mo ∧ E' ≤ E + (3 - j) ∧ later tm d d' m_runs ru := by
  obtain ⟨-, -, -, -, -, -, -, k, hk, ek, ekm, hA⟩ := hR
  intro n
  induction n with
  | zero => intro n' j d E _ _ _ _ _ _ _ _ _ _ _ _ _ h; omega
  | succ n ih =>
    intro n' j d E c_emits c_kept c_values c_due c_outputs m_values m_runs m_dues m_emitted m_output hE hj hjk hn hn' hX
    cases n' with
    | zero => omega
    | succ n' =>
      show ∃ em kp va du ou mva ru mdu me mo d' E', X0_react_B35 c_next c_actions c_kind c_a c_b (lN tm) c_ignores (X0_react_L35 c_next c_actions c_kind c_a c_b (lN tm) c_ignores n) c_emits c_kept c_values c_due c_outputs c_fired (nI t) (nI j) = some (nI t, c_next t, em, kp, c_ignores, va, du, ou, c_fired) ∧ X4_fire_B67 m_nexts m_sizes m_actions m_fired (lN tm) m_ignored (X4_fire_L67 m_nexts m_sizes m_actions m_fired (lN tm) m_ignored n') m_values m_runs m_dues m_emitted m_output (nI t) (nI j) = some (nI t, upd m_fired t (m_fired t + 1), m_nexts t, mva, ru, mdu, me, mo, m_ignored) ∧ RX d' E' em kp va du ou mva ru mdu me mo ∧ E' ≤ E + (3 - j) ∧ later tm d d' m_runs ru
      unfold X0_react_B35 X4_fire_B67
      rw [ix_ok ht (by decide), ix_ok ht (by decide), nI_clamp (by omega), ek, ekm]
      rw [ek, nI_leI (by omega) (by omega)] at hjk
      by_cases hje : j = k
      · subst hje
        rw [if_pos (nI_le (Nat.le_refl j) (by omega)), if_pos (nI_le (Nat.le_refl j) (by omega))]
        unfold X0_react_B63 X4_fire_B121
        rw [ix_ok ht (by decide), ix_ok ht (by decide), nI_clamp (by omega)]
        exact ⟨_, _, _, _, _, _, _, _, _, _, d, E, rfl, rfl, hX, by omega, later_rf⟩
      · have hjl : j < k := by omega
        rw [if_neg (nI_ge hjl (by omega)), if_neg (nI_ge hjl (by omega))]
        obtain ⟨a1, a2, a3, a4⟩ := hA j hjl
        rw [i3, i2, i1, pk_mul, nI_add, pk_mul, nI_add, nI_add, nI_add, ix_ok (n := 360) (by omega) (by decide), ix_ok (n := 360) (by omega) (by decide), ix_ok (n := 360) (by omega) (by decide), nI_clamp (by omega), nI_clamp (by omega), nI_clamp (by omega), a1, a2, a3]
        obtain ⟨x, y, d1, E1, hx, hy, hX1, hE1, hE2, hl1⟩ := act_sim (t := tm) (q := 3 * t + j) htm (by omega) (by omega) a4 hX
        rw [hx, hy, ob_s, ob_s]
        obtain ⟨em, kp, va, du, ou, mva, ru, mdu, me, mo, d', E', b1, b2, b3, b4, b5⟩ := ih n' (j + 1) d1 E1 _ _ _ _ _ _ _ _ _ _ (by omega) (by omega) (by rw [ek]; exact nI_le (by omega) (by omega)) (by omega) (by omega) hX1
        exact ⟨em, kp, va, du, ou, mva, ru, mdu, me, mo, d', E', b1, b2, b3, by omega, later_tr hl1 b5⟩
theorem fire_find {m_froms m_events m_variables m_relations m_numbers m_nexts m_sizes m_actions m_fired : Nat → Int32} {m_state : Int32} {m_time : Int64} {m_values m_runs : Nat → Int32} {m_dues : Nat → Int64} {m_emitted : Int32} {m_output : Nat → Int32} {m_ignored ev : Int32} {T fu : Nat} (hT : T ≤ 40) (hg : ∀ t, t < T → gok (m_variables t) (m_relations t) (m_numbers t)) :
    ∀ (n j : Nat), j ≤ T → T - j < n → ∃ r, isF (fun t => (m_froms t = m_state ∧ m_events t = ev) ∧ gT (m_variables t) (m_relations t) (m_numbers t) m_values) T j r ∧ X4_fire_L2 fu (nI T) m_froms m_events m_variables m_relations m_numbers m_nexts m_sizes m_actions m_fired m_state m_time m_values m_runs m_dues m_emitted m_output m_ignored ev n (nI j) = (if r = -1 then X4_fire_B149 m_fired m_state m_values m_runs m_dues m_emitted m_output m_ignored else X4_fire_L67 m_nexts m_sizes m_actions m_fired m_time m_ignored fu m_values m_runs m_dues m_emitted m_output r 0) := by
  intro n
  induction n with
  | zero => intro j _ h; omega
  | succ n ih =>
    intro j hj hn
    show ∃ r, _ ∧ X4_fire_B2 fu (nI T) m_froms m_events m_variables m_relations m_numbers m_nexts m_sizes m_actions m_fired m_state m_time m_values m_runs m_dues m_emitted m_output m_ignored ev (X4_fire_L2 fu (nI T) m_froms m_events m_variables m_relations m_numbers m_nexts m_sizes m_actions m_fired m_state m_time m_values m_runs m_dues m_emitted m_output m_ignored ev n) (nI j) = _
    unfold X4_fire_B2
    by_cases hjT : j = T
    · subst hjT
      rw [if_pos (nI_le (Nat.le_refl j) (by omega))]
      exact ⟨-1, isF_end (Nat.le_refl j), (if_pos rfl).symm⟩
    · have hj' : j < T := by omega
      rw [if_neg (nI_ge hj' (by omega)), ix_ok (n := 40) (by omega) (by decide), nI_clamp (by omega), nI_1]
      obtain ⟨r, hF, hr⟩ := ih (j + 1) (by omega) (by omega)
      have hm : ¬ nI j = (-1 : Int32) := nI_m1 (by omega)
      by_cases h1 : m_froms j = m_state
      · rw [if_pos h1]
        by_cases h2 : m_events j = ev
        · rw [if_pos h2]
          obtain ⟨g1, g2, g3⟩ := hg j hj'
          by_cases h3 : m_variables j = -1
          · rw [if_pos h3]
            exact ⟨nI j, isF_here hj' ⟨⟨h1, h2⟩, Or.inl h3⟩, (if_neg hm).symm⟩
          · rw [if_neg h3]
            obtain ⟨k, hk, ek⟩ := g1.resolve_left h3
            rw [show ix (m_variables j) 3 = fun B => ix (nI k) 3 B from by rw [ek]]
            dsimp only
            rw [ix_ok hk (by decide)]
            obtain ⟨b, hb, hbb⟩ := isTrue_m (m_variables := m_variables) (m_relations := m_relations) (m_numbers := m_numbers) (t := j) (by omega) (m_values (m_variables j).toNatClampNeg) h3 g2
            rw [hb, ob_s]
            rcases hbb with ⟨e, q⟩ | ⟨e, q⟩
            · rw [e, if_neg (by decide)]
              exact ⟨nI j, isF_here hj' ⟨⟨h1, h2⟩, Or.inr q⟩, (if_neg hm).symm⟩
            · rw [if_pos e]
              exact ⟨r, isF_next (fun z => z.2.elim h3 q) hF, hr⟩
        · rw [if_neg h2]
          exact ⟨r, isF_next (fun z => h2 z.1.2) hF, hr⟩
      · rw [if_neg h1]
        exact ⟨r, isF_next (fun z => h1 z.1.1) hF, hr⟩
theorem gT_same {v r n : Int32} {f g : Nat → Int32} (hv : v = -1 ∨ ∃ k, k < 3 ∧ v = nI k) (h : ∀ k, k < 3 → f k = g k) : gT v r n f ↔ gT v r n g := by
  rcases hv with e | ⟨k, hk, e⟩
  · exact ⟨fun _ => Or.inl e, fun _ => Or.inl e⟩
  · unfold gT
    rw [e, nI_clamp (by omega), h k hk]
theorem react_sim {S T tm fu : Nat} (hT : T ≤ 40) (htm : tm < 2 ^ 29) (hfu : 50 ≤ fu) {c_from c_event c_next c_variable c_relation c_number c_actions c_kind c_a c_b m_froms m_events m_variables m_relations m_numbers m_nexts m_sizes m_actions : Nat → Int32} (hR : ∀ t, t < T → rowR S t c_from c_event c_next c_variable c_relation c_number c_actions c_kind c_a c_b m_froms m_events m_variables m_relations m_numbers m_nexts m_sizes m_actions)
    {c_present : Int32} {c_fired m_fired : Nat → Int32} {c_ignores : Int32} (hf : ∀ t, t < T → c_fired t = m_fired t) {d : Nat → Nat} {E : Nat} {c_emits c_kept : Int32} {c_values : Nat → Int32} {c_due : Nat → Int64} {c_outputs m_values m_runs : Nat → Int32} {m_dues : Nat → Int64} {m_emitted : Int32} {m_output : Nat → Int32} (hE : E + 3 < 2 ^ 30) (hX : RX d E c_emits c_kept c_values c_due c_outputs m_values m_runs m_dues m_emitted m_output) (ev : Int32) :
    ∃ (r pr em kp ig : Int32) (va : Nat → Int32) (du : Nat → Int64) (ou fi fi' mva ru : Nat → Int32) (mdu : Nat → Int64) (me : Int32) (mo : Nat → Int32) (d' : Nat → Nat) (E' : Nat), X0_react fu (nI T) c_from c_event c_next c_variable c_relation c_number c_actions c_kind c_a c_b c_present (lN tm) c_emits c_kept c_ignores c_values c_due c_outputs c_fired ev = some (r, pr, em, kp, ig, va, du, ou, fi) ∧ X4_fire fu (nI T) m_froms m_events m_variables m_relations m_numbers m_nexts m_sizes m_actions m_fired c_present (lN tm) m_values m_runs m_dues m_emitted m_output c_ignores ev = some (r, fi', pr, mva, ru, mdu, me, mo, ig) ∧ (∀ t, t < T → fi t = fi' t) ∧ RX d' E' em kp va du ou mva ru mdu me mo ∧ E' ≤ E + 3 ∧ later tm d d' m_runs ru := by
  have hv : ∀ v, v < 3 → sm (c_values v) := fun v h => by rw [(hX.1 v h).1]; exact (hX.1 v h).2
  obtain ⟨r, hr, hF⟩ := firstTrue_spec (c_from := c_from) (c_event := c_event) (c_variable := c_variable) (c_relation := c_relation) (c_number := c_number) (c_values := c_values) hT hfu c_present ev (fun t h => (hR t h).2.2.2.2.2.2.1) hv fu 0 0 (-1) (by decide) (Nat.le_refl 0) (by omega) (by omega) (by omega)
  have hgm : ∀ t, t < T → gok (m_variables t) (m_relations t) (m_numbers t) := fun t h => by
    obtain ⟨-, -, -, e1, e2, e3, g, -⟩ := hR t h
    rw [e1, e2, e3]; exact g
  obtain ⟨r2, hF2, hr2⟩ := fire_find (m_froms := m_froms) (m_events := m_events) (m_variables := m_variables) (m_relations := m_relations) (m_numbers := m_numbers) (m_nexts := m_nexts) (m_sizes := m_sizes) (m_actions := m_actions) (m_fired := m_fired) (m_state := c_present) (m_time := lN tm) (m_values := m_values) (m_runs := m_runs) (m_dues := m_dues) (m_emitted := m_emitted) (m_output := m_output) (m_ignored := c_ignores) (ev := ev) (fu := fu) hT hgm fu 0 (by omega) (by omega)
  have hF3 := isF_mono (Q := fun t => (m_froms t = c_present ∧ m_events t = ev) ∧ gT (m_variables t) (m_relations t) (m_numbers t) m_values) (fun t _ ht => by
    obtain ⟨⟨s, -, a1, a2⟩, ⟨e, -, b1, b2⟩, -, e1, e2, e3, g, -⟩ := hR t ht
    rw [a1, a2, b1, b2, e1, e2, e3, gT_same (f := c_values) (g := m_values) g.1 (fun k hk => (hX.1 k hk).1)]) hF
  have er := isF_uniq hF3 hF2
  subst er
  unfold X0_react X0_firstTrue X4_fire
  rw [show (0 : Int32) = nI 0 from rfl] at hr2 ⊢
  rw [hr, hr2, ob_s]
  rcases hF with ⟨e, -⟩ | ⟨t, -, ht, e, -, -⟩
  · rw [if_pos e, if_pos e]
    unfold X4_fire_B149
    exact ⟨_, _, _, _, _, _, _, _, _, _, _, _, _, _, _, d, E, rfl, rfl, hf, hX, by omega, later_rf⟩
  · have hm : ¬ nI t = (-1 : Int32) := nI_m1 (by omega)
    rw [e, if_neg hm, if_neg hm, ix_ok (n := 40) (by omega) (by decide), nI_clamp (by omega)]
    obtain ⟨em, kp, va, du, ou, mva, ru, mdu, me, mo, d', E', b1, b2, b3, b4, b5⟩ := acts_sim (t := t) (tm := tm) (by omega) htm (upd c_fired t (c_fired t + 1)) m_fired c_ignores c_ignores (hR t ht) fu fu 0 d E c_emits c_kept c_values c_due c_outputs m_values m_runs m_dues m_emitted m_output (by omega) (by omega) (by
      obtain ⟨-, -, -, -, -, -, -, k, hk, ek, -, -⟩ := hR t ht
      rw [ek]; exact nI_le (by omega) (by omega)) (by omega) (by omega) hX
    rw [b1, b2]
    obtain ⟨-, -, ⟨s, -, n1, n2⟩, -⟩ := hR t ht
    refine ⟨nI t, c_next t, em, kp, c_ignores, va, du, ou, upd c_fired t (c_fired t + 1), upd m_fired t (m_fired t + 1), mva, ru, mdu, me, mo, d', E', rfl, by rw [n1, n2], fun i hi => ?_, b3, b4, b5⟩
    by_cases ei : i = t
    · rw [ei, upd_s, upd_s, hf t ht]
    · rw [upd_n ei, upd_n ei]; exact hf i hi
