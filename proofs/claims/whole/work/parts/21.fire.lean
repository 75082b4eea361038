/-! numbers -/
theorem bm {z : Int} (h1 : -2147483648 ≤ z) (h2 : z < 2147483648) : Int.bmod z (2 ^ 32) = z := by
  unfold Int.bmod
  simp only
  split <;> omega
theorem ti_add {a b : Int32} (h1 : -2147483648 ≤ a.toInt + b.toInt) (h2 : a.toInt + b.toInt < 2147483648) : (a + b).toInt = a.toInt + b.toInt := by
  rw [Int32.toInt_add]
  exact bm h1 h2
theorem ti_sub {a b : Int32} (h1 : -2147483648 ≤ a.toInt - b.toInt) (h2 : a.toInt - b.toInt < 2147483648) : (a - b).toInt = a.toInt - b.toInt := by
  rw [Int32.toInt_sub]
  exact bm h1 h2
theorem ti_1 : (1 : Int32).toInt = 1 := by decide
theorem ti_0 : (0 : Int32).toInt = 0 := by decide
theorem ti_K : (1000 : Int32).toInt = 1000 := by decide
theorem ti_mK : (-1000 : Int32).toInt = -1000 := by decide
/-- a number that guards and variables hold -/
def sm (x : Int32) : Prop := -1000 ≤ x.toInt ∧ x.toInt ≤ 1000
/-- whether a guard is true -/
def gT (v r n : Int32) (vals : Nat → Int32) : Prop := v = -1 ∨ (if r = 0 then (vals v.toNatClampNeg).toInt < n.toInt else if r = 1 then vals v.toNatClampNeg = n else n.toInt < (vals v.toNatClampNeg).toInt)
def gok (v r n : Int32) : Prop := (v = -1 ∨ ∃ k, k < 3 ∧ v = nI k) ∧ (r = 0 ∨ r = 1 ∨ r = 2) ∧ sm n
theorem isTrue_c {c_variable c_relation c_number c_values : Nat → Int32} {t : Nat} (ht : t < 40) (hg : gok (c_variable t) (c_relation t) (c_number t)) (hv : ∀ v, v < 3 → sm (c_values v)) :
    ∃ b : Int32, X0_isTrue c_variable c_relation c_number c_values (nI t) = some b ∧ ((b = 1 ∧ gT (c_variable t) (c_relation t) (c_number t) c_values) ∨ (b = 0 ∧ ¬ gT (c_variable t) (c_relation t) (c_number t) c_values)) := by
  unfold X0_isTrue
  rw [ix_ok ht (by decide), nI_clamp (by omega)]
  obtain ⟨hg1, hg2, hg3⟩ := hg
  by_cases h1 : c_variable t = -1
  · rw [if_pos h1]
    exact ⟨1, rfl, Or.inl ⟨rfl, Or.inl h1⟩⟩
  · rw [if_neg h1]
    obtain ⟨k, hk, ek⟩ := hg1.resolve_left h1
    have hs := hv k hk
    unfold sm at hs hg3
    unfold X1_lowest X1_highest gT
    rw [ix_ok ht (by decide), ix_ok ht (by decide), nI_clamp (n := t) (by omega), ek, nI_clamp (n := k) (by omega)]
    have hm : ¬ nI k = (-1 : Int32) := nI_m1 (by omega)
    rcases hg2 with e | e | e
    · rw [e]
      simp only [if_true]
      rw [ob_s, ix_ok hk (by decide), if_neg (by rw [Int32.lt_iff_toInt_lt, ti_mK]; omega), ob_s]
      have e1 : (c_number t - 1).toInt = (c_number t).toInt - 1 := by rw [ti_sub (by rw [ti_1]; omega) (by rw [ti_1]; omega), ti_1]
      by_cases q : c_number t - 1 < c_values k
      · rw [if_pos q]
        rw [Int32.lt_iff_toInt_lt, e1] at q
        exact ⟨0, rfl, Or.inr ⟨rfl, fun z => z.elim hm (fun z => by omega)⟩⟩
      · rw [if_neg q]
        rw [Int32.lt_iff_toInt_lt, e1] at q
        exact ⟨1, rfl, Or.inl ⟨rfl, Or.inr (by omega)⟩⟩
    · rw [e]
      simp only [(by decide : ¬ (1 : Int32) = 0), if_false, if_true]
      rw [ob_s, ix_ok hk (by decide)]
      by_cases q : c_values k < c_number t
      · rw [if_pos q]
        exact ⟨0, rfl, Or.inr ⟨rfl, fun z => z.elim hm (fun z => by rw [z, Int32.lt_iff_toInt_lt] at q; omega)⟩⟩
      · rw [if_neg q, ob_s]
        by_cases q2 : c_number t < c_values k
        · rw [if_pos q2]
          exact ⟨0, rfl, Or.inr ⟨rfl, fun z => z.elim hm (fun z => by rw [z, Int32.lt_iff_toInt_lt] at q2; omega)⟩⟩
        · rw [if_neg q2]
          rw [Int32.lt_iff_toInt_lt] at q q2
          exact ⟨1, rfl, Or.inl ⟨rfl, Or.inr (Int32.toInt_inj.mp (by omega))⟩⟩
    · rw [e]
      simp only [(by decide : ¬ (2 : Int32) = 0), (by decide : ¬ (2 : Int32) = 1), if_false]
      rw [ob_s, ix_ok hk (by decide)]
      have e1 : (c_number t + 1).toInt = (c_number t).toInt + 1 := by rw [ti_add (by rw [ti_1]; omega) (by rw [ti_1]; omega), ti_1]
      by_cases q : c_values k < c_number t + 1
      · rw [if_pos q]
        rw [Int32.lt_iff_toInt_lt, e1] at q
        exact ⟨0, rfl, Or.inr ⟨rfl, fun z => z.elim hm (fun z => by omega)⟩⟩
      · rw [if_neg q, ob_s, if_neg (by rw [Int32.lt_iff_toInt_lt, ti_K]; omega)]
        rw [Int32.lt_iff_toInt_lt, e1] at q
        exact ⟨1, rfl, Or.inl ⟨rfl, Or.inr (by omega)⟩⟩
theorem isTrue_m {m_variables m_relations m_numbers : Nat → Int32} {t : Nat} (ht : t < 40) (x : Int32) (h1 : ¬ m_variables t = -1) (hg2 : m_relations t = 0 ∨ m_relations t = 1 ∨ m_relations t = 2) :
    ∃ b : Int32, X4_isTrue m_variables m_relations m_numbers (nI t) x = some b ∧ ((b = 1 ∧ (if m_relations t = 0 then x.toInt < (m_numbers t).toInt else if m_relations t = 1 then x = m_numbers t else (m_numbers t).toInt < x.toInt)) ∨ (b = 0 ∧ ¬ (if m_relations t = 0 then x.toInt < (m_numbers t).toInt else if m_relations t = 1 then x = m_numbers t else (m_numbers t).toInt < x.toInt))) := by
  unfold X4_isTrue
  rw [ix_ok ht (by decide), nI_clamp (by omega), if_neg h1]
  rcases hg2 with e | e | e
  · rw [e]
    simp only [if_true]
    by_cases q : m_numbers t ≤ x
    · rw [if_pos q]
      rw [Int32.le_iff_toInt_le] at q
      exact ⟨0, rfl, Or.inr ⟨rfl, by omega⟩⟩
    · rw [if_neg q]
      rw [Int32.le_iff_toInt_le] at q
      exact ⟨1, rfl, Or.inl ⟨rfl, by omega⟩⟩
  · rw [e]
    simp only [(by decide : ¬ (1 : Int32) = 0), if_false, if_true]
    by_cases q : x = m_numbers t
    · rw [if_pos q]
      exact ⟨1, rfl, Or.inl ⟨rfl, q⟩⟩
    · rw [if_neg q]
      exact ⟨0, rfl, Or.inr ⟨rfl, q⟩⟩
  · rw [e]
    simp only [(by decide : ¬ (2 : Int32) = 0), (by decide : ¬ (2 : Int32) = 1), if_false]
    by_cases q : x ≤ m_numbers t
    · rw [if_pos q]
      rw [Int32.le_iff_toInt_le] at q
      exact ⟨0, rfl, Or.inr ⟨rfl, by omega⟩⟩
    · rw [if_neg q]
      rw [Int32.le_iff_toInt_le] at q
      exact ⟨1, rfl, Or.inl ⟨rfl, by omega⟩⟩
/-! the first transition with a property, from place j on -/
def isF (P : Nat → Prop) (T j : Nat) (r : Int32) : Prop := (r = -1 ∧ ∀ t, j ≤ t → t < T → ¬ P t) ∨ ∃ t, j ≤ t ∧ t < T ∧ r = nI t ∧ P t ∧ ∀ i, j ≤ i → i < t → ¬ P i
theorem isF_here {P : Nat → Prop} {T j : Nat} (h : j < T) (p : P j) : isF P T j (nI j) := Or.inr ⟨j, Nat.le_refl j, h, rfl, p, fun i a b => absurd a (by omega)⟩
theorem isF_next {P : Nat → Prop} {T j : Nat} {r : Int32} (p : ¬ P j) (h : isF P T (j + 1) r) : isF P T j r := by
  rcases h with ⟨e, q⟩ | ⟨t, a, b, c, d, q⟩
  · refine Or.inl ⟨e, fun t h1 h2 => ?_⟩
    by_cases e2 : t = j
    · rw [e2]; exact p
    · exact q t (by omega) h2
  · refine Or.inr ⟨t, by omega, b, c, d, fun i h1 h2 => ?_⟩
    by_cases e2 : i = j
    · rw [e2]; exact p
    · exact q i (by omega) h2
theorem isF_end {P : Nat → Prop} {T j : Nat} (h : T ≤ j) : isF P T j (-1) := Or.inl ⟨rfl, fun t a b => absurd a (by omega)⟩
theorem isF_uniq {P : Nat → Prop} {T j : Nat} {r1 r2 : Int32} (h1 : isF P T j r1) (h2 : isF P T j r2) : r1 = r2 := by
  rcases h1 with ⟨e1, q1⟩ | ⟨t1, a1, b1, c1, d1, q1⟩ <;> rcases h2 with ⟨e2, q2⟩ | ⟨t2, a2, b2, c2, d2, q2⟩
  · rw [e1, e2]
  · exact absurd d2 (q1 t2 a2 b2)
  · exact absurd d1 (q2 t1 a1 b1)
  · have : t1 = t2 := by
      rcases Nat.lt_trichotomy t1 t2 with h | h | h
      · exact absurd d1 (q2 t1 a1 h)
      · exact h
      · exact absurd d2 (q1 t2 a2 h)
    rw [c1, c2, this]
theorem isF_mono {P Q : Nat → Prop} {T j : Nat} {r : Int32} (h : ∀ t, j ≤ t → t < T → (P t ↔ Q t)) (h1 : isF P T j r) : isF Q T j r := by
  rcases h1 with ⟨e1, q1⟩ | ⟨t1, a1, b1, c1, d1, q1⟩
  · exact Or.inl ⟨e1, fun t a b z => q1 t a b ((h t a b).mpr z)⟩
  · exact Or.inr ⟨t1, a1, b1, c1, (h t1 a1 b1).mp d1, fun i a b z => q1 i a b ((h i a (by omega)).mpr z)⟩
theorem firstBehind_spec {c_from c_event : Nat → Int32} {T : Nat} (hT : T ≤ 40) (s e : Int32) :
    ∀ (n j : Nat), j ≤ T → T - j < n → ∃ r, X1_firstBehind_L5 (nI T) c_from c_event s e n (nI j) = some r ∧ isF (fun t => c_from t = s ∧ c_event t = e) T j r := by
  intro n
  induction n with
  | zero => intro j _ h; omega
  | succ n ih =>
    intro j hj hn
    show ∃ r, X1_firstBehind_B5 (nI T) c_from c_event s e (X1_firstBehind_L5 (nI T) c_from c_event s e n) (nI j) = some r ∧ _
    unfold X1_firstBehind_B5
    by_cases hjT : j = T
    · subst hjT
      rw [if_pos (nI_le (Nat.le_refl j) (by omega))]
      exact ⟨_, rfl, isF_end (Nat.le_refl j)⟩
    · have hj' : j < T := by omega
      rw [if_neg (nI_ge hj' (by omega)), ix_ok (n := 40) (by omega) (by decide), nI_clamp (by omega), nI_1]
      obtain ⟨r, hr, hF⟩ := ih (j + 1) (by omega) (by omega)
      by_cases h1 : c_from j = s
      · rw [if_pos h1]
        by_cases h2 : c_event j = e
        · rw [if_pos h2]
          exact ⟨nI j, rfl, isF_here hj' ⟨h1, h2⟩⟩
        · rw [if_neg h2]
          exact ⟨r, hr, isF_next (fun q => h2 q.2) hF⟩
      · rw [if_neg h1]
        exact ⟨r, hr, isF_next (fun q => h1 q.1) hF⟩
theorem firstTrue_spec {c_from c_event c_variable c_relation c_number c_values : Nat → Int32} {T fu : Nat} (hT : T ≤ 40) (hfu : 50 ≤ fu) (s e : Int32) (hg : ∀ t, t < T → gok (c_variable t) (c_relation t) (c_number t)) (hv : ∀ v, v < 3 → sm (c_values v)) :
    ∀ (n j k : Nat) (v2 : Int32), v2 + 1 = nI j → k ≤ j → k ≤ 40 → j ≤ T → 40 - k < n → ∃ r, X0_firstTrue_L4 fu (nI T) c_from c_event c_variable c_relation c_number s c_values e n v2 (nI k) = some r ∧ isF (fun t => (c_from t = s ∧ c_event t = e) ∧ gT (c_variable t) (c_relation t) (c_number t) c_values) T j r := by
  intro n
  induction n with
  | zero => intro j k v2 _ _ _ _ h; omega
  | succ n ih =>
    intro j k v2 h2 hkj hk hj hn
    show ∃ r, X0_firstTrue_B4 fu (nI T) c_from c_event c_variable c_relation c_number s c_values e (X0_firstTrue_L4 fu (nI T) c_from c_event c_variable c_relation c_number s c_values e n) v2 (nI k) = some r ∧ _
    unfold X0_firstTrue_B4
    by_cases hk4 : k = 40
    · subst hk4
      rw [if_pos (by decide)]
      exact ⟨_, rfl, isF_end (by omega)⟩
    · rw [if_neg (show ¬ (40 : Int32) ≤ nI k from nI_ge (b := 40) (by omega) (by omega))]
      unfold X1_firstBehind
      rw [h2]
      obtain ⟨r, hr, hF⟩ := firstBehind_spec (c_from := c_from) (c_event := c_event) hT s e fu j hj (by omega)
      rw [hr, ob_s]
      rcases hF with ⟨e1, q⟩ | ⟨t, a, b, c, d, q⟩
      · rw [if_pos e1]
        exact ⟨r, rfl, Or.inl ⟨e1, fun t x y z => q t x y z.1⟩⟩
      · rw [c, if_neg (nI_m1 (by omega))]
        obtain ⟨bb, hb, hbb⟩ := isTrue_c (c_variable := c_variable) (c_relation := c_relation) (c_number := c_number) (c_values := c_values) (t := t) (by omega) (hg t b) hv
        rw [hb, ob_s]
        rcases hbb with ⟨e2, g⟩ | ⟨e2, g⟩
        · rw [e2, if_neg (by decide)]
          exact ⟨_, rfl, Or.inr ⟨t, a, b, rfl, ⟨d, g⟩, fun i x y z => q i x y z.1⟩⟩
        · rw [if_pos e2, nI_1]
          obtain ⟨r2, hr2, hF2⟩ := ih (t + 1) (k + 1) (nI t) (nI_1 t) (by omega) (by omega) (by omega) (by omega)
          refine ⟨r2, hr2, ?_⟩
          have key : ∀ i, j ≤ i → i < t + 1 → ¬ ((c_from i = s ∧ c_event i = e) ∧ gT (c_variable i) (c_relation i) (c_number i) c_values) := by
            intro i x y z
            by_cases e3 : i = t
            · rw [e3] at z; exact g z.2
            · exact q i x (by omega) z.1
          rcases hF2 with ⟨e3, q3⟩ | ⟨t3, a3, b3, c3, d3, q3⟩
          · refine Or.inl ⟨e3, fun i x y => ?_⟩
            rcases Nat.lt_or_ge i (t + 1) with h | h
            · exact key i x h
            · exact q3 i h y
          · refine Or.inr ⟨t3, by omega, b3, c3, d3, fun i x y => ?_⟩
            rcases Nat.lt_or_ge i (t + 1) with h | h
            · exact key i x h
            · exact q3 i h y
