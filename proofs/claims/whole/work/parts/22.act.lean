/-! actions -/
/-- an action that may stand in the rows -/
def aok (k a b : Int32) : Prop := (k = 0 ∧ (∃ v, v < 3 ∧ a = nI v) ∧ sm b) ∨ (k = 1 ∧ (∃ v, v < 3 ∧ a = nI v) ∧ sm b) ∨ (k = 2 ∧ (∃ v, v < 4 ∧ a = nI v) ∧ ∃ n, 1 ≤ n ∧ n ≤ 1000 ∧ b = nI n) ∨ (k = 3 ∧ ∃ v, v < 4 ∧ a = nI v) ∨ k = 4
/-- what the two sides' variables, timers and outputs have in common; d: when the timers that run are due, E: how many were emitted -/
def RX (d : Nat → Nat) (E : Nat) (c_emits c_kept : Int32) (c_values : Nat → Int32) (c_due : Nat → Int64) (c_outputs : Nat → Int32) (m_values m_runs : Nat → Int32) (m_dues : Nat → Int64) (m_emitted : Int32) (m_output : Nat → Int32) : Prop :=
  (∀ v, v < 3 → c_values v = m_values v ∧ sm (m_values v)) ∧
  (∀ i, i < 4 → (m_runs i = 0 ∧ c_due i = -1) ∨ (m_runs i = 1 ∧ c_due i = lN (d i) ∧ m_dues i = lN (d i) ∧ d i < 2 ^ 30)) ∧
  c_emits = nI E ∧ m_emitted = nI E ∧ c_kept = nI (min E 60) ∧ (∀ k, k < min E 60 → c_outputs k = m_output k)
/-- a timer that runs behind an action ran before as it does, or was started now -/
def later (t : Nat) (d d' : Nat → Nat) (m_runs m_runs' : Nat → Int32) : Prop := ∀ i, i < 4 → m_runs' i = 1 → (m_runs i = 1 ∧ d' i = d i) ∨ (t < d' i ∧ d' i ≤ t + 1000)
theorem later_rf {t : Nat} {d : Nat → Nat} {m_runs : Nat → Int32} : later t d d m_runs m_runs := fun _ _ h => Or.inl ⟨h, rfl⟩
theorem later_tr {t : Nat} {d d1 d2 : Nat → Nat} {r r1 r2 : Nat → Int32} (h1 : later t d d1 r r1) (h2 : later t d1 d2 r1 r2) : later t d d2 r r2 := by
  intro i hi h
  rcases h2 i hi h with ⟨a, b⟩ | b
  · rcases h1 i hi a with ⟨a', b'⟩ | b'
    · exact Or.inl ⟨a', b.trans b'⟩
    · exact Or.inr (by rw [b]; exact b')
  · exact Or.inr b
theorem upd_s {f : Nat → Int32} {k : Nat} {x : Int32} : upd f k x k = x := if_pos rfl
theorem upd_n {f : Nat → Int32} {k j : Nat} {x : Int32} (h : ¬ j = k) : upd f k x j = f j := if_neg h
theorem updL_s {f : Nat → Int64} {k : Nat} {x : Int64} : vp_updL f k x k = x := if_pos rfl
theorem updL_n {f : Nat → Int64} {k j : Nat} {x : Int64} (h : ¬ j = k) : vp_updL f k x j = f j := if_neg h
theorem clamp_sm {x y : Int32} (hx : sm x) (hy : sm y) : sm (if (-1000 : Int32) < (if x + y < (1000 : Int32) then x + y else (1000 : Int32)) then (if x + y < (1000 : Int32) then x + y else (1000 : Int32)) else (-1000 : Int32)) := by
  unfold sm at hx hy ⊢
  have e : (x + y).toInt = x.toInt + y.toInt := ti_add (by omega) (by omega)
  by_cases h1 : x + y < (1000 : Int32)
  · simp only [if_pos h1]
    rw [Int32.lt_iff_toInt_lt, e, ti_K] at h1
    by_cases h2 : (-1000 : Int32) < x + y
    · rw [if_pos h2]
      rw [Int32.lt_iff_toInt_lt, e, ti_mK] at h2
      omega
    · rw [if_neg h2, ti_mK]; omega
  · simp only [if_neg h1]
    rw [if_pos (by decide), ti_K]; omega
theorem act_sim {c_kind c_a c_b : Nat → Int32} {t q : Nat} (ht : t < 2 ^ 29) (hq : q < 120) {d : Nat → Nat} {E : Nat} {c_emits c_kept : Int32} {c_values : Nat → Int32} {c_due : Nat → Int64} {c_outputs m_values m_runs : Nat → Int32} {m_dues : Nat → Int64} {m_emitted : Int32} {m_output : Nat → Int32} (hE : E < 2 ^ 30)
    (ha : aok (c_kind q) (c_a q) (c_b q)) (h : RX d E c_emits c_kept c_values c_due c_outputs m_values m_runs m_dues m_emitted m_output) :
    ∃ (x : Int32 × Int32 × (Nat → Int32) × (Nat → Int64) × (Nat → Int32)) (y : (Nat → Int32) × (Nat → Int32) × (Nat → Int64) × Int32 × (Nat → Int32)) (d' : Nat → Nat) (E' : Nat), X0_act c_kind c_a c_b (lN t) c_emits c_kept c_values c_due c_outputs (nI q) = some x ∧ X4_act (lN t) m_values m_runs m_dues m_emitted m_output (c_kind q) (c_a q) (c_b q) = some y ∧ RX d' E' x.1 x.2.1 x.2.2.1 x.2.2.2.1 x.2.2.2.2 y.1 y.2.1 y.2.2.1 y.2.2.2.1 y.2.2.2.2 ∧ E ≤ E' ∧ E' ≤ E + 1 ∧ later t d d' m_runs y.2.1 := by
  obtain ⟨h1, h2, h3, h4, h5, h6⟩ := h
  unfold X0_act X4_act
  rw [ix_ok hq (by decide), nI_clamp (by omega)]
  unfold X4_act_B11 X4_act_B42 X4_act_B67 X4_act_B79
  rcases ha with ⟨e, ⟨v, hv, ea⟩, hb⟩ | ⟨e, ⟨v, hv, ea⟩, hb⟩ | ⟨e, ⟨v, hv, ea⟩, n, hn1, hn2, eb⟩ | ⟨e, v, hv, ea⟩ | e
  · rw [e, ea]
    simp only [if_true, (by decide : ¬ (0 : Int32) = 1), (by decide : ¬ (0 : Int32) = 2), (by decide : ¬ (0 : Int32) = 3), (by decide : ¬ (0 : Int32) = 4), if_false, ix_ok hv (by decide : 3 < 2 ^ 31), nI_clamp (show v < 2 ^ 31 by omega)]
    refine ⟨_, _, d, E, rfl, rfl, ⟨fun i hi => ?_, h2, h3, h4, h5, h6⟩, Nat.le_refl E, by omega, later_rf⟩
    show upd c_values v (c_b q) i = upd m_values v (c_b q) i ∧ sm (upd m_values v (c_b q) i)
    by_cases ei : i = v
    · rw [ei, upd_s, upd_s]; exact ⟨rfl, hb⟩
    · rw [upd_n ei, upd_n ei]; exact h1 i hi
  · rw [e, ea]
    simp only [if_true, (by decide : ¬ (1 : Int32) = 0), (by decide : ¬ (1 : Int32) = 2), (by decide : ¬ (1 : Int32) = 3), (by decide : ¬ (1 : Int32) = 4), if_false, ix_ok hv (by decide : 3 < 2 ^ 31), nI_clamp (show v < 2 ^ 31 by omega)]
    refine ⟨_, _, d, E, rfl, rfl, ⟨fun i hi => ?_, h2, h3, h4, h5, h6⟩, Nat.le_refl E, by omega, later_rf⟩
    obtain ⟨ev, hsv⟩ := h1 v hv
    dsimp only
    rw [ev]
    by_cases ei : i = v
    · rw [ei, upd_s, upd_s]; exact ⟨rfl, clamp_sm hsv hb⟩
    · rw [upd_n ei, upd_n ei]; exact h1 i hi
  · rw [e, ea, eb]
    simp only [if_true, (by decide : ¬ (2 : Int32) = 0), (by decide : ¬ (2 : Int32) = 1), (by decide : ¬ (2 : Int32) = 3), (by decide : ¬ (2 : Int32) = 4), if_false, ix_ok hv (by decide : 4 < 2 ^ 31), nI_clamp (show v < 2 ^ 31 by omega), nI_l (show n < 2 ^ 31 by omega), lN_add]
    refine ⟨_, _, fun i => if i = v then t + n else d i, E, rfl, rfl, ⟨h1, fun i hi => ?_, h3, h4, h5, h6⟩, Nat.le_refl E, by omega, fun i hi hr => ?_⟩
    · dsimp only
      by_cases ei : i = v
      · rw [ei, upd_s, updL_s, updL_s, if_pos rfl]
        exact Or.inr ⟨rfl, rfl, rfl, by omega⟩
      · rw [upd_n ei, updL_n ei, updL_n ei, if_neg ei]; exact h2 i hi
    · dsimp only at hr ⊢
      by_cases ei : i = v
      · rw [if_pos ei]; exact Or.inr ⟨by omega, by omega⟩
      · rw [if_neg ei]; rw [upd_n ei] at hr; exact Or.inl ⟨hr, rfl⟩
  · rw [e, ea]
    simp only [if_true, (by decide : ¬ (3 : Int32) = 0), (by decide : ¬ (3 : Int32) = 1), (by decide : ¬ (3 : Int32) = 2), (by decide : ¬ (3 : Int32) = 4), if_false, ix_ok hv (by decide : 4 < 2 ^ 31), nI_clamp (show v < 2 ^ 31 by omega)]
    refine ⟨_, _, d, E, rfl, rfl, ⟨h1, fun i hi => ?_, h3, h4, h5, h6⟩, Nat.le_refl E, by omega, fun i hi hr => ?_⟩
    · dsimp only
      by_cases ei : i = v
      · rw [ei, upd_s, updL_s]
        exact Or.inl ⟨rfl, rfl⟩
      · rw [upd_n ei, updL_n ei]; exact h2 i hi
    · dsimp only at hr
      by_cases ei : i = v
      · rw [ei, upd_s] at hr; exact absurd hr (by decide)
      · rw [upd_n ei] at hr; exact Or.inl ⟨hr, rfl⟩
  · rw [e]
    simp only [if_true, (by decide : ¬ (4 : Int32) = 0), (by decide : ¬ (4 : Int32) = 1), (by decide : ¬ (4 : Int32) = 2), (by decide : ¬ (4 : Int32) = 3), if_false]
    unfold X0_emit X0_emit_B29 X4_act_B104
    rw [h3, h4, h5]
    by_cases hk : E < 60
    · have em : min E 60 = E := Nat.min_eq_left (by omega)
      rw [em, if_neg (show ¬ (60 : Int32) ≤ nI E from nI_ge (b := 60) hk (by omega)), if_neg (show ¬ (60 : Int32) ≤ nI E from nI_ge (b := 60) hk (by omega)), ix_ok hk (by decide), ix_ok hk (by decide), nI_clamp (by omega), ob_s, nI_1]
      refine ⟨_, _, d, E + 1, rfl, rfl, ⟨h1, h2, rfl, rfl, ?_, fun k hk2 => ?_⟩, by omega, Nat.le_refl _, later_rf⟩
      · dsimp only
        rw [Nat.min_eq_left (show E + 1 ≤ 60 by omega)]
      · dsimp only
        rw [Nat.min_eq_left (show E + 1 ≤ 60 by omega)] at hk2
        by_cases ei : k = E
        · rw [ei, upd_s, upd_s]
        · rw [upd_n ei, upd_n ei]; exact h6 k (by rw [em]; omega)
    · have em : min E 60 = 60 := Nat.min_eq_right (by omega)
      rw [em, if_pos (show (60 : Int32) ≤ nI 60 from nI_le (a := 60) (Nat.le_refl 60) (by omega)), if_pos (show (60 : Int32) ≤ nI E from nI_le (a := 60) (show 60 ≤ E by omega) (by omega)), ob_s, nI_1]
      refine ⟨_, _, d, E + 1, rfl, rfl, ⟨h1, h2, rfl, rfl, ?_, fun k hk2 => ?_⟩, by omega, Nat.le_refl _, later_rf⟩
      · dsimp only
        rw [Nat.min_eq_right (show 60 ≤ E + 1 by omega)]
      · rw [Nat.min_eq_right (show 60 ≤ E + 1 by omega)] at hk2
        exact h6 k (by rw [em]; exact hk2)
