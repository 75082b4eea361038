/-! hidden transitions -/
def isB (b : Int32) (P : Prop) : Prop := (b = 1 ∧ P) ∨ (b = 0 ∧ ¬ P)
theorem isB_uniq {b c : Int32} {P Q : Prop} (h1 : isB b P) (h2 : isB c Q) (h : P ↔ Q) : b = c := by
  rcases h1 with ⟨e1, p⟩ | ⟨e1, p⟩ <;> rcases h2 with ⟨e2, q⟩ | ⟨e2, q⟩
  · rw [e1, e2]
  · exact absurd (h.mp p) q
  · exact absurd (h.mpr q) p
  · rw [e1, e2]
theorem isB_01 {b : Int32} {P : Prop} (h : isB b P) : b = 0 ∨ b = 1 := h.elim (fun q => Or.inr q.1) (fun q => Or.inl q.1)
theorem isB_nz {α : Type} {b : Int32} {P : Prop} {B : Option α} (h : isB b P) : nz b B = B := if_pos (isB_01 h)
def gv (r n : Int32) (x : Int) : Prop := if r = 0 then x < n.toInt else if r = 1 then x = n.toInt else n.toInt < x
theorem isTrue_m2 {m_variables m_relations m_numbers : Nat → Int32} {t : Nat} (ht : t < 40) (x : Int32) (h1 : ¬ m_variables t = -1) (hg2 : m_relations t = 0 ∨ m_relations t = 1 ∨ m_relations t = 2) : ∃ b : Int32, X4_isTrue m_variables m_relations m_numbers (nI t) x = some b ∧ isB b (gv (m_relations t) (m_numbers t) x.toInt) := by
  obtain ⟨b, hb, q⟩ := isTrue_m (m_variables := m_variables) (m_relations := m_relations) (m_numbers := m_numbers) ht x h1 hg2
  refine ⟨b, hb, ?_⟩
  unfold isB gv
  rw [show (x.toInt = (m_numbers t).toInt) = (x = m_numbers t) from propext Int32.toInt_inj]
  exact q
/-- what one guard's truth says of another's -/
def imp (r1 n1 r2 n2 : Int32) (lo : Int) : Prop := ∀ x : Int, lo ≤ x → x ≤ 1000 → gv r1 n1 x → gv r2 n2 x
theorem hides_spec {m_variables m_relations m_numbers : Nat → Int32} {e t : Nat} (he : e < 40) (ht : t < 40) (h1 : ¬ m_variables e = -1) (h2 : ¬ m_variables t = -1) (g1 : m_relations e = 0 ∨ m_relations e = 1 ∨ m_relations e = 2) (g2 : m_relations t = 0 ∨ m_relations t = 1 ∨ m_relations t = 2) :
    ∀ (n k : Nat) (v3 v4 : Int32), v4.toInt = -1000 + k → k ≤ 2001 → 2001 - k < n → (v3 = 0 ∨ v3 = 1) → ∃ b, X4_hides_L68 m_variables m_relations m_numbers (nI e) (nI t) n v3 v4 = some b ∧ isB b (v3 = 1 ∧ imp (m_relations t) (m_numbers t) (m_relations e) (m_numbers e) v4.toInt) := by
  intro n
  induction n with
  | zero => intro k _ _ _ _ h; omega
  | succ n ih =>
    intro k v3 v4 hv hk hn h3
    show ∃ b, X4_hides_B68 m_variables m_relations m_numbers (nI e) (nI t) (X4_hides_L68 m_variables m_relations m_numbers (nI e) (nI t) n) v3 v4 = some b ∧ _
    unfold X4_hides_B68
    by_cases hk1 : k = 2001
    · have hgt : (1000 : Int32) < v4 := by rw [Int32.lt_iff_toInt_lt, ti_K]; omega
      rw [if_pos hgt]
      have hall : imp (m_relations t) (m_numbers t) (m_relations e) (m_numbers e) v4.toInt := fun x a b => absurd a (by omega)
      rcases h3 with e3 | e3
      · rw [e3, nz_0]
        exact ⟨0, rfl, Or.inr ⟨rfl, fun q => absurd q.1 (by decide)⟩⟩
      · rw [e3, nz_1]
        exact ⟨1, rfl, Or.inl ⟨rfl, rfl, hall⟩⟩
    · have hgt : ¬ (1000 : Int32) < v4 := by rw [Int32.lt_iff_toInt_lt, ti_K]; omega
      rw [if_neg hgt]
      have hv1 : (v4 + 1).toInt = -1000 + (k + 1 : Nat) := by rw [ti_add (by rw [ti_1]; omega) (by rw [ti_1]; omega), ti_1]; omega
      have step : ∀ v, (v = 0 ∨ v = 1) → ∃ b, X4_hides_L68 m_variables m_relations m_numbers (nI e) (nI t) n v (v4 + 1) = some b ∧ isB b (v = 1 ∧ imp (m_relations t) (m_numbers t) (m_relations e) (m_numbers e) (v4 + 1).toInt) := fun v h => ih (k + 1) v (v4 + 1) hv1 (by omega) (by omega) h
      have split : imp (m_relations t) (m_numbers t) (m_relations e) (m_numbers e) v4.toInt ↔ ((gv (m_relations t) (m_numbers t) v4.toInt → gv (m_relations e) (m_numbers e) v4.toInt) ∧ imp (m_relations t) (m_numbers t) (m_relations e) (m_numbers e) (v4 + 1).toInt) := by
        constructor
        · exact fun q => ⟨fun z => q _ (Int.le_refl _) (by omega) z, fun x a b => q x (by omega) b⟩
        · intro q x a b z
          by_cases ex : x = v4.toInt
          · rw [ex] at z ⊢; exact q.1 z
          · exact q.2 x (by omega) b z
      rcases h3 with e3 | e3
      · rw [if_pos e3]
        obtain ⟨b, hb, q⟩ := step 0 (Or.inl rfl)
        refine ⟨b, hb, ?_⟩
        rcases q with ⟨-, q, -⟩ | ⟨q, -⟩
        · exact absurd q (by decide)
        · exact Or.inr ⟨q, fun z => absurd (e3.symm.trans z.1) (by decide)⟩
      · rw [e3, if_neg (by decide : ¬ (1 : Int32) = 0)]
        obtain ⟨b1, hb1, q1⟩ := isTrue_m2 (m_variables := m_variables) (m_relations := m_relations) (m_numbers := m_numbers) ht v4 h2 g2
        obtain ⟨b2, hb2, q2⟩ := isTrue_m2 (m_variables := m_variables) (m_relations := m_relations) (m_numbers := m_numbers) he v4 h1 g1
        rw [hb1, ob_s]
        obtain ⟨c1, hc1, w1⟩ := step 1 (Or.inr rfl)
        obtain ⟨c0, hc0, w0⟩ := step 0 (Or.inl rfl)
        rcases q1 with ⟨p1, z1⟩ | ⟨p1, z1⟩
        · rw [p1, if_neg (by decide : ¬ (1 : Int32) = 0), hb2, ob_s]
          rcases q2 with ⟨p2, z2⟩ | ⟨p2, z2⟩
          · rw [p2, if_neg (by decide : ¬ (1 : Int32) = 0)]
            refine ⟨c1, hc1, ?_⟩
            rcases w1 with ⟨a, -, b⟩ | ⟨a, b⟩
            · exact Or.inl ⟨a, rfl, split.mpr ⟨fun _ => z2, b⟩⟩
            · exact Or.inr ⟨a, fun q => b ⟨rfl, (split.mp q.2).2⟩⟩
          · rw [if_pos p2]
            refine ⟨c0, hc0, ?_⟩
            rcases w0 with ⟨-, q, -⟩ | ⟨q, -⟩
            · exact absurd q (by decide)
            · exact Or.inr ⟨q, fun z => z2 ((split.mp z.2).1 z1)⟩
        · rw [if_pos p1]
          refine ⟨c1, hc1, ?_⟩
          rcases w1 with ⟨a, -, b⟩ | ⟨a, b⟩
          · exact Or.inl ⟨a, rfl, split.mpr ⟨fun z => absurd z z1, b⟩⟩
          · exact Or.inr ⟨a, fun q => b ⟨rfl, (split.mp q.2).2⟩⟩
def loI (r n : Int32) : Int := if r = 0 then -1000 else if r = 1 then n.toInt else n.toInt + 1
def hiI (r n : Int32) : Int := if r = 0 then n.toInt - 1 else if r = 1 then n.toInt else 1000
theorem lowest_c {c_relation c_number : Nat → Int32} {t : Nat} (ht : t < 40) (h : sm (c_number t)) : ∃ x : Int32, X1_lowest c_relation c_number (nI t) = some x ∧ x.toInt = loI (c_relation t) (c_number t) := by
  unfold X1_lowest loI
  unfold sm at h
  rw [ix_ok ht (by decide), nI_clamp (by omega)]
  by_cases h0 : c_relation t = 0
  · rw [if_pos h0, if_pos h0]; exact ⟨_, rfl, ti_mK⟩
  · rw [if_neg h0, if_neg h0]
    by_cases h1 : c_relation t = 1
    · rw [if_pos h1, if_pos h1]; exact ⟨_, rfl, rfl⟩
    · rw [if_neg h1, if_neg h1]; exact ⟨_, rfl, by rw [ti_add (by rw [ti_1]; omega) (by rw [ti_1]; omega), ti_1]⟩
theorem highest_c {c_relation c_number : Nat → Int32} {t : Nat} (ht : t < 40) (h : sm (c_number t)) : ∃ x : Int32, X1_highest c_relation c_number (nI t) = some x ∧ x.toInt = hiI (c_relation t) (c_number t) := by
  unfold X1_highest hiI
  unfold sm at h
  rw [ix_ok ht (by decide), nI_clamp (by omega)]
  by_cases h0 : c_relation t = 0
  · rw [if_pos h0, if_pos h0]; exact ⟨_, rfl, by rw [ti_sub (by rw [ti_1]; omega) (by rw [ti_1]; omega), ti_1]⟩
  · rw [if_neg h0, if_neg h0]
    by_cases h1 : c_relation t = 1
    · rw [if_pos h1, if_pos h1]; exact ⟨_, rfl, rfl⟩
    · rw [if_neg h1, if_neg h1]; exact ⟨_, rfl, ti_K⟩
theorem gv_iff {r n : Int32} {x : Int} (h : -1000 ≤ x) (h' : x ≤ 1000) : gv r n x ↔ loI r n ≤ x ∧ x ≤ hiI r n := by
  unfold gv loI hiI
  by_cases h0 : r = 0
  · simp only [if_pos h0]; omega
  · simp only [if_neg h0]
    by_cases h1 : r = 1
    · simp only [if_pos h1]; omega
    · simp only [if_neg h1]; omega
theorem lohi {r n : Int32} (hn : sm n) : -1000 ≤ loI r n ∧ hiI r n ≤ 1000 := by
  unfold sm at hn
  unfold loI hiI
  by_cases h0 : r = 0
  · simp only [if_pos h0]; omega
  · simp only [if_neg h0]
    by_cases h1 : r = 1
    · simp only [if_pos h1]; omega
    · simp only [if_neg h1]; omega
theorem imp_iff {r1 n1 r2 n2 : Int32} (h1 : sm n1) : imp r1 n1 r2 n2 (-1000) ↔ (hiI r1 n1 < loI r1 n1 ∨ (loI r2 n2 ≤ loI r1 n1 ∧ hiI r1 n1 ≤ hiI r2 n2)) := by
  obtain ⟨a, b⟩ := lohi (r := r1) h1
  constructor
  · intro q
    rcases Int.lt_or_le (hiI r1 n1) (loI r1 n1) with h | h
    · exact Or.inl h
    · have q1 := (gv_iff (r := r2) (n := n2) (x := loI r1 n1) (by omega) (by omega)).mp (q _ (by omega) (by omega) ((gv_iff (by omega) (by omega)).mpr ⟨Int.le_refl _, h⟩))
      have q2 := (gv_iff (r := r2) (n := n2) (x := hiI r1 n1) (by omega) (by omega)).mp (q _ (by omega) (by omega) ((gv_iff (by omega) (by omega)).mpr ⟨h, Int.le_refl _⟩))
      exact Or.inr ⟨q1.1, q2.2⟩
  · intro q x h3 h4 h5
    have h6 := (gv_iff h3 h4).mp h5
    refine (gv_iff h3 h4).mpr ?_
    omega
def hid (vr rl nm : Nat → Int32) (e t : Nat) : Prop := vr e = -1 ∨ (vr e = vr t ∧ imp (rl t) (nm t) (rl e) (nm e) (-1000))
theorem covers_c {c_variable c_relation c_number : Nat → Int32} {e t : Nat} (he : e < 40) (ht : t < 40) (hge : sm (c_number e)) (hgt : sm (c_number t)) : ∃ b, X1_covers c_variable c_relation c_number (nI e) (nI t) = some b ∧ isB b (hid c_variable c_relation c_number e t) := by
  unfold X1_covers hid
  rw [ix_ok he (by decide), nI_clamp (n := e) (by omega), ix_ok ht (by decide), nI_clamp (n := t) (by omega)]
  by_cases h1 : c_variable e = -1
  · rw [if_pos h1]
    exact ⟨1, rfl, Or.inl ⟨rfl, Or.inl h1⟩⟩
  · rw [if_neg h1]
    by_cases h2 : c_variable e = c_variable t
    · rw [if_pos h2]
      obtain ⟨l1, a1, b1⟩ := lowest_c (c_relation := c_relation) (c_number := c_number) ht hgt
      obtain ⟨u1, a2, b2⟩ := highest_c (c_relation := c_relation) (c_number := c_number) ht hgt
      obtain ⟨l2, a3, b3⟩ := lowest_c (c_relation := c_relation) (c_number := c_number) he hge
      obtain ⟨u2, a4, b4⟩ := highest_c (c_relation := c_relation) (c_number := c_number) he hge
      have key := imp_iff (r1 := c_relation t) (n1 := c_number t) (r2 := c_relation e) (n2 := c_number e) hgt
      rw [← b1, ← b2, ← b3, ← b4] at key
      rw [a1, ob_s, a2, ob_s]
      by_cases q1 : u1 < l1
      · rw [if_pos q1]
        rw [Int32.lt_iff_toInt_lt] at q1
        exact ⟨1, rfl, Or.inl ⟨rfl, Or.inr ⟨h2, key.mpr (Or.inl q1)⟩⟩⟩
      · rw [if_neg q1, a3, ob_s]
        rw [Int32.lt_iff_toInt_lt] at q1
        by_cases q2 : l1 < l2
        · rw [if_pos q2]
          rw [Int32.lt_iff_toInt_lt] at q2
          exact ⟨0, rfl, Or.inr ⟨rfl, fun z => z.elim h1 (fun z => by have := key.mp z.2; omega)⟩⟩
        · rw [if_neg q2, a4, ob_s]
          rw [Int32.lt_iff_toInt_lt] at q2
          by_cases q3 : u2 < u1
          · rw [if_pos q3]
            rw [Int32.lt_iff_toInt_lt] at q3
            exact ⟨0, rfl, Or.inr ⟨rfl, fun z => z.elim h1 (fun z => by have := key.mp z.2; omega)⟩⟩
          · rw [if_neg q3]
            rw [Int32.lt_iff_toInt_lt] at q3
            exact ⟨1, rfl, Or.inl ⟨rfl, Or.inr ⟨h2, key.mpr (Or.inr ⟨by omega, by omega⟩)⟩⟩⟩
    · rw [if_neg h2]
      exact ⟨0, rfl, Or.inr ⟨rfl, fun z => z.elim h1 (fun z => h2 z.1)⟩⟩
theorem behind_c {c_from c_event c_variable c_relation c_number : Nat → Int32} {t : Nat} (ht : t < 40) (hg : ∀ i, i ≤ t → sm (c_number i)) :
    ∀ (n j : Nat), j ≤ t → t - j < n → ∃ b, X1_isBehindAnother_L2 c_from c_event c_variable c_relation c_number (nI t) n (nI j) = some b ∧ isB b (∃ e, j ≤ e ∧ e < t ∧ c_from e = c_from t ∧ c_event e = c_event t ∧ hid c_variable c_relation c_number e t) := by
  intro n
  induction n with
  | zero => intro j _ h; omega
  | succ n ih =>
    intro j hj hn
    show ∃ b, X1_isBehindAnother_B2 c_from c_event c_variable c_relation c_number (nI t) (X1_isBehindAnother_L2 c_from c_event c_variable c_relation c_number (nI t) n) (nI j) = some b ∧ _
    unfold X1_isBehindAnother_B2
    by_cases hjt : j = t
    · subst hjt
      rw [if_pos (nI_le (Nat.le_refl j) (by omega))]
      exact ⟨0, rfl, Or.inr ⟨rfl, fun ⟨e, a, b, _⟩ => absurd a (by omega)⟩⟩
    · have hj' : j < t := by omega
      rw [if_neg (nI_ge hj' (by omega)), ix_ok (k := j) (n := 40) (by omega) (by decide), ix_ok ht (by decide), nI_clamp (n := j) (by omega), nI_clamp (n := t) (by omega), nI_1]
      obtain ⟨b, hb, q⟩ := ih (j + 1) (by omega) (by omega)
      have next : ¬ (c_from j = c_from t ∧ c_event j = c_event t ∧ hid c_variable c_relation c_number j t) → isB b (∃ e, j ≤ e ∧ e < t ∧ c_from e = c_from t ∧ c_event e = c_event t ∧ hid c_variable c_relation c_number e t) := by
        intro no
        rcases q with ⟨p, e, a, c⟩ | ⟨p, z⟩
        · exact Or.inl ⟨p, e, by omega, c⟩
        · refine Or.inr ⟨p, fun ⟨e, a, c, d⟩ => ?_⟩
          by_cases ee : e = j
          · rw [ee] at d; exact no d
          · exact z ⟨e, by omega, c, d⟩
      by_cases h1 : c_from j = c_from t
      · rw [if_pos h1]
        by_cases h2 : c_event j = c_event t
        · rw [if_pos h2]
          obtain ⟨x, hx, w⟩ := covers_c (c_variable := c_variable) (c_relation := c_relation) (c_number := c_number) (e := j) (t := t) (by omega) ht (hg j (by omega)) (hg t (Nat.le_refl t))
          rw [hx, ob_s]
          rcases w with ⟨p, z⟩ | ⟨p, z⟩
          · rw [p, if_neg (by decide)]
            exact ⟨1, rfl, Or.inl ⟨rfl, j, Nat.le_refl j, hj', h1, h2, z⟩⟩
          · rw [if_pos p]
            exact ⟨b, hb, next (fun y => z y.2.2)⟩
        · rw [if_neg h2]
          exact ⟨b, hb, next (fun y => h2 y.2.1)⟩
      · rw [if_neg h1]
        exact ⟨b, hb, next (fun y => h1 y.1)⟩
theorem hides_m {m_froms m_events m_variables m_relations m_numbers : Nat → Int32} {e t fu : Nat} (hfu : 2100 ≤ fu) (he : e < 40) (ht : t < 40) (g1 : gok (m_variables e) (m_relations e) (m_numbers e)) (g2 : gok (m_variables t) (m_relations t) (m_numbers t)) : ∃ b, X4_hides fu m_froms m_events m_variables m_relations m_numbers (nI e) (nI t) = some b ∧ isB b (m_froms e = m_froms t ∧ m_events e = m_events t ∧ hid m_variables m_relations m_numbers e t) := by
  unfold X4_hides
  rw [ix_ok he (by decide), ix_ok ht (by decide), nI_clamp (n := e) (by omega), nI_clamp (n := t) (by omega)]
  by_cases h1 : m_froms e = m_froms t
  · rw [if_pos h1]
    by_cases h2 : m_events e = m_events t
    · rw [if_pos h2]
      by_cases h3 : m_variables e = -1
      · rw [if_pos h3]
        exact ⟨1, rfl, Or.inl ⟨rfl, h1, h2, Or.inl h3⟩⟩
      · rw [if_neg h3]
        by_cases h4 : m_variables e = m_variables t
        · rw [if_pos h4]
          obtain ⟨b, hb, q⟩ := hides_spec (m_variables := m_variables) (m_relations := m_relations) (m_numbers := m_numbers) he ht h3 (by rw [← h4]; exact h3) g1.2.1 g2.2.1 fu 0 1 (-1000) (by decide) (by omega) (by omega) (Or.inr rfl)
          refine ⟨b, hb, ?_⟩
          rw [ti_mK] at q
          rcases q with ⟨p, -, z⟩ | ⟨p, z⟩
          · exact Or.inl ⟨p, h1, h2, Or.inr ⟨h4, z⟩⟩
          · exact Or.inr ⟨p, fun y => y.2.2.elim h3 (fun y => z ⟨rfl, y.2⟩)⟩
        · rw [if_neg h4]
          exact ⟨0, rfl, Or.inr ⟨rfl, fun y => y.2.2.elim h3 (fun y => h4 y.1)⟩⟩
    · rw [if_neg h2]
      exact ⟨0, rfl, Or.inr ⟨rfl, fun y => h2 y.2.1⟩⟩
  · rw [if_neg h1]
    exact ⟨0, rfl, Or.inr ⟨rfl, fun y => h1 y.1⟩⟩
theorem hidden_m {m_froms m_events m_variables m_relations m_numbers : Nat → Int32} {t fu : Nat} (hfu : 2100 ≤ fu) (ht : t < 40) (hg : ∀ i, i ≤ t → gok (m_variables i) (m_relations i) (m_numbers i)) :
    ∀ (n j : Nat) (v2 : Int32), (v2 = 0 ∨ v2 = 1) → j ≤ t → t - j < n → ∃ b, X4_isHidden_L21 fu m_froms m_events m_variables m_relations m_numbers (nI t) n 0 v2 (nI j) = some (b, 0) ∧ isB b (v2 = 1 ∨ ∃ e, j ≤ e ∧ e < t ∧ m_froms e = m_froms t ∧ m_events e = m_events t ∧ hid m_variables m_relations m_numbers e t) := by
  intro n
  induction n with
  | zero => intro j _ _ _ h; omega
  | succ n ih =>
    intro j v2 h2 hj hn
    show ∃ b, X4_isHidden_B21 fu m_froms m_events m_variables m_relations m_numbers (nI t) (X4_isHidden_L21 fu m_froms m_events m_variables m_relations m_numbers (nI t) n) 0 v2 (nI j) = some (b, 0) ∧ _
    unfold X4_isHidden_B21
    by_cases hjt : j = t
    · subst hjt
      rw [if_pos (nI_le (Nat.le_refl j) (by omega))]
      rcases h2 with e | e
      · rw [e, nz_0]
        exact ⟨0, rfl, Or.inr ⟨rfl, fun z => z.elim (fun z => absurd z (by decide)) (fun ⟨e, a, b, _⟩ => absurd a (by omega))⟩⟩
      · rw [e, nz_1]
        exact ⟨1, rfl, Or.inl ⟨rfl, Or.inl rfl⟩⟩
    · have hj' : j < t := by omega
      rw [if_neg (nI_ge hj' (by omega)), if_pos rfl, nI_1]
      rcases h2 with e | e
      · rw [if_pos e]
        obtain ⟨x, hx, w⟩ := hides_m (m_froms := m_froms) (m_events := m_events) (m_variables := m_variables) (m_relations := m_relations) (m_numbers := m_numbers) (e := j) (t := t) hfu (by omega) ht (hg j (by omega)) (hg t (Nat.le_refl t))
        rw [hx, ob_s]
        rcases w with ⟨p, z⟩ | ⟨p, z⟩
        · rw [p, if_neg (by decide)]
          obtain ⟨b, hb, q⟩ := ih (j + 1) 1 (Or.inr rfl) (by omega) (by omega)
          refine ⟨b, hb, ?_⟩
          rcases q with ⟨a, -⟩ | ⟨-, c⟩
          · exact Or.inl ⟨a, Or.inr ⟨j, Nat.le_refl j, hj', z⟩⟩
          · exact absurd (Or.inl rfl) c
        · rw [if_pos p]
          obtain ⟨b, hb, q⟩ := ih (j + 1) 0 (Or.inl rfl) (by omega) (by omega)
          refine ⟨b, hb, ?_⟩
          rcases q with ⟨a, c⟩ | ⟨a, c⟩
          · refine Or.inl ⟨a, Or.inr ?_⟩
            rcases c with c | ⟨e9, u1, u2⟩
            · exact absurd c (by decide)
            · exact ⟨e9, by omega, u2⟩
          · refine Or.inr ⟨a, fun y => ?_⟩
            rcases y with y | ⟨e9, u1, u2, u3⟩
            · rw [e] at y; exact absurd y (by decide)
            · by_cases ee : e9 = j
              · rw [ee] at u3; exact z u3
              · exact c (Or.inr ⟨e9, by omega, u2, u3⟩)
      · rw [e, if_neg (by decide : ¬ (1 : Int32) = 0)]
        obtain ⟨b, hb, q⟩ := ih (j + 1) 1 (Or.inr rfl) (by omega) (by omega)
        refine ⟨b, hb, ?_⟩
        rcases q with ⟨a, -⟩ | ⟨-, c⟩
        · exact Or.inl ⟨a, Or.inl rfl⟩
        · exact absurd (Or.inl rfl) c
