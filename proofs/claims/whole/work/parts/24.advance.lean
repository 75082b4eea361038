/-! time goes on -/
theorem adv_sim {S T g fu : Nat} (hT : T ≤ 40) (hg : g < 2 ^ 29) (hfu : 50 ≤ fu) {c_from c_event c_next c_variable c_relation c_number c_actions c_kind c_a c_b m_froms m_events m_variables m_relations m_numbers m_nexts m_sizes m_actions c_timerEvent m_timerEvents : Nat → Int32} (hR : ∀ t, t < T → rowR S t c_from c_event c_next c_variable c_relation c_number c_actions c_kind c_a c_b m_froms m_events m_variables m_relations m_numbers m_nexts m_sizes m_actions) (hte : ∀ i, i < 4 → c_timerEvent i = m_timerEvents i) (th : Int32) :
    ∀ (n q : Nat) (last : Nat → Nat) (c tm : Nat) (d : Nat → Nat) (E : Nat) (c_present : Int32) (c_emits c_kept c_ignores : Int32) (c_values : Nat → Int32) (c_due : Nat → Int64) (c_outputs c_fired m_fired m_values m_runs : Nat → Int32) (m_dues : Nat → Int64) (m_emitted : Int32) (m_output : Nat → Int32) (r : Int32) (tv tw : Int64),
      (g - last 0) + (g - last 1) + (g - last 2) + (g - last 3) ≤ q → c + q ≤ 4000 → q < n → E + 3 * q < 2 ^ 30 - 3 → tm ≤ g → (∀ i, i < 4 → last i ≤ tm) → (∀ i, i < 4 → m_runs i = 1 → last i < d i ∧ tm ≤ d i) → RX d E c_emits c_kept c_values c_due c_outputs m_values m_runs m_dues m_emitted m_output → (∀ t, t < T → c_fired t = m_fired t) → ntI m_runs d g 4 r →
      ∃ (c' : Nat) (pr em kp ig : Int32) (va : Nat → Int32) (du : Nat → Int64) (ou fi fi' mva ru : Nat → Int32) (mdu : Nat → Int64) (me : Int32) (mo : Nat → Int32) (d' : Nat → Nat) (E' : Nat), X0_goOn_L18 fu (nI T) c_timerEvent c_from c_event c_next c_variable c_relation c_number c_actions c_kind c_a c_b n c_present tv c_emits c_kept c_ignores c_values c_due c_outputs c_fired (lN g) (nI c) r = some (nI c', pr, lN g, em, kp, ig, va, du, ou, fi) ∧ X4_advance_L40 fu m_timerEvents (nI T) m_froms m_events m_variables m_relations m_numbers m_nexts m_sizes m_actions n th m_fired c_present tw m_values m_runs m_dues m_emitted m_output c_ignores (lN g) (nI c) r = some (nI c', th, fi', pr, lN g, mva, ru, mdu, me, mo, ig) ∧ (∀ t, t < T → fi t = fi' t) ∧ RX d' E' em kp va du ou mva ru mdu me mo ∧ E' ≤ E + 3 * q ∧ (∀ i, i < 4 → ru i = 1 → g < d' i) := by
  intro n
  induction n with
  | zero => intro q last c tm d E _ _ _ _ _ _ _ _ _ _ _ _ _ _ _ _ _ _ _ h; omega
  | succ n ih =>
    intro q last c tm d E c_present c_emits c_kept c_ignores c_values c_due c_outputs c_fired m_fired m_values m_runs m_dues m_emitted m_output r tv tw hq hc hn hE htm hlast hrun hX hf hr
    show ∃ c' pr em kp ig va du ou fi fi' mva ru mdu me mo d' E', X0_goOn_B18 fu (nI T) c_timerEvent c_from c_event c_next c_variable c_relation c_number c_actions c_kind c_a c_b (X0_goOn_L18 fu (nI T) c_timerEvent c_from c_event c_next c_variable c_relation c_number c_actions c_kind c_a c_b n) c_present tv c_emits c_kept c_ignores c_values c_due c_outputs c_fired (lN g) (nI c) r = some (nI c', pr, lN g, em, kp, ig, va, du, ou, fi) ∧ X4_advance_B40 fu m_timerEvents (nI T) m_froms m_events m_variables m_relations m_numbers m_nexts m_sizes m_actions (X4_advance_L40 fu m_timerEvents (nI T) m_froms m_events m_variables m_relations m_numbers m_nexts m_sizes m_actions n) th m_fired c_present tw m_values m_runs m_dues m_emitted m_output c_ignores (lN g) (nI c) r = some (nI c', th, fi', pr, lN g, mva, ru, mdu, me, mo, ig) ∧ (∀ t, t < T → fi t = fi' t) ∧ RX d' E' em kp va du ou mva ru mdu me mo ∧ E' ≤ E + 3 * q ∧ (∀ i, i < 4 → ru i = 1 → g < d' i)
    unfold X0_goOn_B18 X4_advance_B40
    rcases hr with ⟨e, hno⟩ | ⟨j, hj, e, hrj, hdj, hmin⟩
    · rw [if_pos e, if_pos e]
      exact ⟨c, _, _, _, _, _, _, _, _, _, _, _, _, _, _, d, E, rfl, rfl, hf, hX, by omega, hno⟩
    · have hm : ¬ nI j = (-1 : Int32) := nI_m1 (by omega)
      obtain ⟨hlj, htj⟩ := hrun j hj hrj
      have hsum : 1 ≤ g - last j := by omega
      have hq1 : 1 ≤ q := by
        have : j = 0 ∨ j = 1 ∨ j = 2 ∨ j = 3 := by omega
        rcases this with rfl | rfl | rfl | rfl <;> omega
      have hc4 : ¬ (4000 : Int32) ≤ nI c := nI_ge (b := 4000) (show c < 4000 by omega) (by omega)
      rw [e, if_neg hm, if_neg hm, if_neg hc4, ix_ok hj (by decide), ix_ok hj (by decide), nI_clamp (by omega)]
      obtain ⟨x1, x2, x3, x4, x5, x6⟩ := hX
      have hdue : c_due j = lN (d j) ∧ m_dues j = lN (d j) := by
        rcases x2 j hj with ⟨a, -⟩ | ⟨-, a, b, -⟩
        · rw [a] at hrj; exact absurd hrj (by decide)
        · exact ⟨a, b⟩
      rw [hdue.1, hdue.2, hte j hj]
      have hX1 : RX d E c_emits c_kept c_values (vp_updL c_due j (-1)) c_outputs m_values (upd m_runs j 0) m_dues m_emitted m_output := by
        refine ⟨x1, fun i hi => ?_, x3, x4, x5, x6⟩
        by_cases ei : i = j
        · rw [ei, upd_s, updL_s]; exact Or.inl ⟨rfl, rfl⟩
        · rw [upd_n ei, updL_n ei]; exact x2 i hi
      obtain ⟨rr, pr, em, kp, ig, va, du, ou, fi, fi', mva, ru, mdu, me, mo, d1, E1, b1, b2, b3, b4, b5, b6⟩ := react_sim (S := S) (tm := d j) hT (by omega) hfu hR (c_present := c_present) (c_ignores := c_ignores) hf (by omega) hX1 (m_timerEvents j)
      rw [b1, b2, ob_s, ob_s]
      dsimp only
      obtain ⟨y1, y2, y3, y4, y5, y6⟩ := b4
      have hnx := nt_spec (m_dues := mdu) (m_runs := ru) (d := d1) (g := g) (by omega) (fun i hi => by
        rcases y2 i hi with ⟨a, -⟩ | ⟨a, -, b, c⟩
        · exact Or.inl a
        · exact Or.inr ⟨a, b, by omega⟩) fu 0 (-1) (Or.inl ⟨rfl, fun i hi => absurd hi (by omega)⟩) (by omega) (by omega)
      obtain ⟨r1, hr1, hI1⟩ := hnx
      have hfd := fd_nt (c_due := du) (m_dues := mdu) (m_runs := ru) (lN g) (fun i hi => by
        rcases y2 i hi with ⟨a, b⟩ | ⟨a, b, c, e9⟩
        · exact Or.inl ⟨a, b⟩
        · refine Or.inr ⟨a, by rw [b, c], fun z => ?_⟩
          rw [c] at z
          have h1 := lN_toInt (n := d1 i) (by omega)
          rw [z] at h1
          have h2 : ((-1 : Int64)).toInt = -1 := by decide
          omega) fu 0 (-1) (Or.inl rfl) (by omega)
      unfold X0_firstDue X4_nextTimer
      rw [show (0 : Int32) = nI 0 from rfl]
      rw [hfd, hr1, ob_s, ob_s, nI_1]
      have hlast1 : ∀ i, i < 4 → (fun i => if i = j then d j else last i) i ≤ d j := by
        intro i hi
        dsimp only
        by_cases ei : i = j
        · rw [if_pos ei]; exact Nat.le_refl _
        · rw [if_neg ei]; have := hlast i hi; omega
      obtain ⟨c', pr2, em2, kp2, ig2, va2, du2, ou2, fi2, fi2', mva2, ru2, mdu2, me2, mo2, d2, E2, z1, z2, z3, z4, z5, z6⟩ := ih (q - 1) (fun i => if i = j then d j else last i) (c + 1) (d j) d1 E1 pr em kp ig va du ou fi fi' mva ru mdu me mo r1 (lN (d j)) (lN (d j)) (by
          have : j = 0 ∨ j = 1 ∨ j = 2 ∨ j = 3 := by omega
          rcases this with rfl | rfl | rfl | rfl <;> simp <;> omega) (by omega) (by omega) (by omega) hdj hlast1 (fun i hi hri => by
          rcases b6 i hi hri with ⟨a, b⟩ | ⟨a, b⟩
          · by_cases ei : i = j
            · rw [ei, upd_s] at a; exact absurd a (by decide)
            · rw [upd_n ei] at a
              rw [if_neg ei, b]
              exact ⟨(hrun i hi a).1, hmin i hi a⟩
          · have := hlast1 i hi
            dsimp only at this
            exact ⟨by omega, by omega⟩) ⟨y1, y2, y3, y4, y5, y6⟩ b3 hI1
      exact ⟨c', pr2, em2, kp2, ig2, va2, du2, ou2, fi2, fi2', mva2, ru2, mdu2, me2, mo2, d2, E2, z1, z2, z3, z4, by omega, z6⟩
