/-! rows that are the same, on both sides -/
/-- cell by cell the same, with next states related by r -/
def cel (fr ev nx vr rl nm ac kd aa bb : Nat → Int32) (T : Nat) (r : Nat → Nat → Prop) (s o e : Nat) : Prop := F2 (fun i j => lab vr rl nm ac kd aa bb i j ∧ r (nx i).toNatClampNeg (nx j).toNatClampNeg) (trl fr ev T s e 0) (trl fr ev T o e 0)
def rws (fr ev nx vr rl nm ac kd aa bb : Nat → Int32) (T : Nat) (r : Nat → Nat → Prop) (s o : Nat) : Prop := ∀ e, e < 8 → cel fr ev nx vr rl nm ac kd aa bb T r s o e
/-- what the walks need of the protocol -/
def okP (S T : Nat) (fr ev nx ac : Nat → Int32) : Prop := S ≤ 12 ∧ T ≤ 40 ∧ ∀ t, t < T → (∃ s, s < S ∧ fr t = nI s) ∧ (∃ e, e < 8 ∧ ev t = nI e) ∧ (∃ s, s < S ∧ nx t = nI s) ∧ ∃ m, m ≤ 3 ∧ ac t = nI m
theorem fb_hd {fr ev : Nat → Int32} {T s e fu : Nat} (hT : T ≤ 40) (hfu : 50 ≤ fu) (j : Nat) (hj : j ≤ T) (v : Int32) (hv : v + 1 = nI j) : X1_firstBehind fu (nI T) fr ev v (nI s) (nI e) = some (hd (trl fr ev T s e j)) := by
  unfold X1_firstBehind
  rw [hv]
  obtain ⟨r, hr, hF⟩ := firstBehind_spec (c_from := fr) (c_event := ev) hT (nI s) (nI e) fu j hj (by omega)
  rw [hr, hd_isF hF]
theorem cells_loop {S T fu s o e : Nat} {fr ev nx vr rl nm ac kd aa bb cls : Nat → Int32} (ok : okP S T fr ev nx ac) (hfu : 50 ≤ fu) :
    ∀ (n c j1 j2 : Nat), j1 ≤ T → j2 ≤ T → c + (trl fr ev T s e j1).length ≤ 40 → (trl fr ev T s e j1).length < n → ∃ b, X2_haveSameCells_L27 fu (nI T) fr ev nx vr rl nm ac kd aa bb cls (nI s) (nI o) (nI e) n (hd (trl fr ev T s e j1)) (hd (trl fr ev T o e j2)) (nI c) = some b ∧ isB b (F2 (fun i j => lab vr rl nm ac kd aa bb i j ∧ cls (nx i).toNatClampNeg = cls (nx j).toNatClampNeg) (trl fr ev T s e j1) (trl fr ev T o e j2)) := by
  obtain ⟨hS, hT, ok⟩ := ok
  intro n
  induction n with
  | zero => intro c j1 j2 _ _ _ h; omega
  | succ n ih =>
    intro c j1 j2 hj1 hj2 hc hn
    show ∃ b, X2_haveSameCells_B27 fu (nI T) fr ev nx vr rl nm ac kd aa bb cls (nI s) (nI o) (nI e) (X2_haveSameCells_L27 fu (nI T) fr ev nx vr rl nm ac kd aa bb cls (nI s) (nI o) (nI e) n) (hd (trl fr ev T s e j1)) (hd (trl fr ev T o e j2)) (nI c) = some b ∧ _
    unfold X2_haveSameCells_B27
    cases h1 : trl fr ev T s e j1 with
    | nil =>
      have e1 : hd ([] : List Nat) = -1 := rfl
      have fin : ∃ b, X2_haveSameCells_B139 (hd ([] : List Nat)) (hd (trl fr ev T o e j2)) = some b ∧ isB b (F2 (fun i j => lab vr rl nm ac kd aa bb i j ∧ cls (nx i).toNatClampNeg = cls (nx j).toNatClampNeg) [] (trl fr ev T o e j2)) := by
        unfold X2_haveSameCells_B139
        rw [if_pos e1]
        cases h2 : trl fr ev T o e j2 with
        | nil => exact ⟨1, if_pos rfl, Or.inl ⟨rfl, trivial⟩⟩
        | cons t l =>
          obtain ⟨-, b, -⟩ := trl_tail (T - j2) j2 t l (Nat.le_refl _) h2
          exact ⟨0, if_neg (nI_m1 (by omega)), Or.inr ⟨rfl, fun q => q⟩⟩
      by_cases hc4 : (40 : Int32) ≤ nI c
      · rw [if_pos hc4]; exact fin
      · rw [if_neg hc4, if_pos e1]; exact fin
    | cons t1 l1 =>
      rw [h1, List.length_cons] at hc hn
      obtain ⟨-, b1, f1, v1, t1e⟩ := trl_tail (T - j1) j1 t1 l1 (Nat.le_refl _) h1
      have m1 : ¬ hd (t1 :: l1) = -1 := nI_m1 (by omega)
      have hc4 : ¬ (40 : Int32) ≤ nI c := nI_ge (b := 40) (by omega) (by omega)
      rw [if_neg hc4, if_neg m1]
      cases h2 : trl fr ev T o e j2 with
      | nil =>
        have e2 : hd ([] : List Nat) = -1 := rfl
        rw [if_pos e2]
        unfold X2_haveSameCells_B139
        rw [if_neg m1]
        exact ⟨0, rfl, Or.inr ⟨rfl, fun q => q⟩⟩
      | cons t2 l2 =>
        obtain ⟨-, b2, f2, v2, t2e⟩ := trl_tail (T - j2) j2 t2 l2 (Nat.le_refl _) h2
        have m2 : ¬ hd (t2 :: l2) = -1 := nI_m1 (by omega)
        rw [if_neg m2, show hd (t1 :: l1) = nI t1 from rfl, show hd (t2 :: l2) = nI t2 from rfl]
        obtain ⟨-, -, ⟨n1, hn1, en1⟩, k1⟩ := ok t1 b1
        obtain ⟨-, -, ⟨n2, hn2, en2⟩, k2⟩ := ok t2 b2
        rw [ix_ok (k := t1) (n := 40) (by omega) (by decide), nI_clamp (n := t1) (by omega), en1, ix_ok (k := n1) (n := 12) (by omega) (by decide), ix_ok (k := t2) (n := 40) (by omega) (by decide), nI_clamp (n := t2) (by omega), en2, ix_ok (k := n2) (n := 12) (by omega) (by decide), nI_clamp (n := n1) (by omega), nI_clamp (n := n2) (by omega)]
        unfold X2_haveSameCells_B84
        unfold F2
        rw [en1, en2, nI_clamp (n := n1) (by omega), nI_clamp (n := n2) (by omega)]
        by_cases hcl : cls n1 = cls n2
        · rw [if_pos hcl, if_neg (by decide : ¬ (1 : Int32) = 0)]
          obtain ⟨b, hb, w⟩ := same_c (c_variable := vr) (c_relation := rl) (c_number := nm) (c_actions := ac) (c_kind := kd) (c_a := aa) (c_b := bb) (i := t1) (j := t2) hfu (by omega) (by omega) k1
          rw [hb, ob_s]
          rcases w with ⟨p, z⟩ | ⟨p, z⟩
          · rw [p, if_neg (by decide : ¬ (1 : Int32) = 0)]
            rw [fb_hd hT hfu (t1 + 1) (by omega) (nI t1) (nI_1 t1), ob_s, fb_hd hT hfu (t2 + 1) (by omega) (nI t2) (nI_1 t2), ob_s, nI_1]
            rw [t1e] at hc hn
            obtain ⟨b', hb', w'⟩ := ih (c + 1) (t1 + 1) (t2 + 1) (by omega) (by omega) (by omega) (by omega)
            rw [t1e, t2e]
            refine ⟨b', hb', ?_⟩
            rcases w' with ⟨p', z'⟩ | ⟨p', z'⟩
            · exact Or.inl ⟨p', ⟨z, hcl⟩, z'⟩
            · exact Or.inr ⟨p', fun y => z' y.2⟩
          · rw [if_pos p]
            exact ⟨0, rfl, Or.inr ⟨rfl, fun y => z y.1.1⟩⟩
        · rw [if_neg hcl, if_pos rfl]
          exact ⟨0, rfl, Or.inr ⟨rfl, fun y => hcl y.1.2⟩⟩
theorem cells_c {S T fu s o e : Nat} {fr ev nx vr rl nm ac kd aa bb cls : Nat → Int32} (ok : okP S T fr ev nx ac) (hfu : 50 ≤ fu) : ∃ b, X2_haveSameCells fu (nI T) fr ev nx vr rl nm ac kd aa bb cls (nI s) (nI o) (nI e) = some b ∧ isB b (cel fr ev nx vr rl nm ac kd aa bb T (fun a b => cls a = cls b) s o e) := by
  unfold X2_haveSameCells cel
  have hT : T ≤ 40 := ok.2.1
  rw [fb_hd hT hfu 0 (by omega) (-1) (by decide), ob_s, fb_hd hT hfu 0 (by omega) (-1) (by decide), ob_s, show (0 : Int32) = nI 0 from rfl]
  have h1 := trl_len (fr := fr) (ev := ev) (T := T) (s := s) (e := e) T 0 (by omega)
  exact cells_loop ok hfu fu 0 0 0 (by omega) (by omega) (by omega) (by omega)
theorem rows_c {S T fu s o : Nat} {fr ev nx vr rl nm ac kd aa bb cls : Nat → Int32} (ok : okP S T fr ev nx ac) (hfu : 50 ≤ fu) :
    ∀ (n e : Nat), e ≤ 8 → 8 - e < n → ∃ b, X2_haveSameRows_L2 fu (nI T) fr ev nx vr rl nm ac kd aa bb cls (nI s) (nI o) n (nI e) = some b ∧ isB b (∀ q, e ≤ q → q < 8 → cel fr ev nx vr rl nm ac kd aa bb T (fun a b => cls a = cls b) s o q) := by
  intro n
  induction n with
  | zero => intro e _ h; omega
  | succ n ih =>
    intro e he hn
    show ∃ b, X2_haveSameRows_B2 fu (nI T) fr ev nx vr rl nm ac kd aa bb cls (nI s) (nI o) (X2_haveSameRows_L2 fu (nI T) fr ev nx vr rl nm ac kd aa bb cls (nI s) (nI o) n) (nI e) = some b ∧ _
    unfold X2_haveSameRows_B2
    by_cases he8 : e = 8
    · subst he8
      rw [if_pos (by decide)]
      exact ⟨1, rfl, Or.inl ⟨rfl, fun q a b => absurd a (by omega)⟩⟩
    · rw [if_neg (show ¬ (8 : Int32) ≤ nI e from nI_ge (b := 8) (by omega) (by omega))]
      obtain ⟨b, hb, w⟩ := cells_c (s := s) (o := o) (e := e) (vr := vr) (rl := rl) (nm := nm) (kd := kd) (aa := aa) (bb := bb) (cls := cls) ok hfu
      rw [hb, ob_s]
      rcases w with ⟨p, z⟩ | ⟨p, z⟩
      · rw [p, if_neg (by decide : ¬ (1 : Int32) = 0), nI_1]
        obtain ⟨b', hb', w'⟩ := ih (e + 1) (by omega) (by omega)
        refine ⟨b', hb', ?_⟩
        rcases w' with ⟨p', z'⟩ | ⟨p', z'⟩
        · refine Or.inl ⟨p', fun q a c => ?_⟩
          by_cases eq : q = e
          · rw [eq]; exact z
          · exact z' q (by omega) c
        · exact Or.inr ⟨p', fun y => z' (fun q a c => y q (by omega) c)⟩
      · rw [if_pos p]
        exact ⟨0, rfl, Or.inr ⟨rfl, fun y => z (y e (Nat.le_refl e) (by omega))⟩⟩
theorem same_rows_c {S T fu s o : Nat} {fr ev nx vr rl nm ac kd aa bb cls : Nat → Int32} (ok : okP S T fr ev nx ac) (hfu : 50 ≤ fu) : ∃ b, X2_haveSameRows fu (nI T) fr ev nx vr rl nm ac kd aa bb cls (nI s) (nI o) = some b ∧ isB b (rws fr ev nx vr rl nm ac kd aa bb T (fun a b => cls a = cls b) s o) := by
  unfold X2_haveSameRows
  rw [show (0 : Int32) = nI 0 from rfl]
  obtain ⟨b, hb, w⟩ := rows_c (s := s) (o := o) (vr := vr) (rl := rl) (nm := nm) (kd := kd) (aa := aa) (bb := bb) (cls := cls) ok hfu fu 0 (by omega) (by omega)
  refine ⟨b, hb, ?_⟩
  rcases w with ⟨p, z⟩ | ⟨p, z⟩
  · exact Or.inl ⟨p, fun q a => z q (by omega) a⟩
  · exact Or.inr ⟨p, fun y => z (fun q _ c => y q c)⟩
theorem twin_c {S T fu s : Nat} {fr ev nx vr rl nm ac kd aa bb cls : Nat → Int32} (ok : okP S T fr ev nx ac) (hfu : 50 ≤ fu) (hs : s < 12) :
    ∀ (n j : Nat), j ≤ s → s - j < n → ∃ r, X2_earlierTwin_L2 fu (nI T) fr ev nx vr rl nm ac kd aa bb cls (nI s) n (nI j) = some r ∧ isF (fun q => cls q = cls s ∧ rws fr ev nx vr rl nm ac kd aa bb T (fun a b => cls a = cls b) q s) s j r := by
  intro n
  induction n with
  | zero => intro j _ h; omega
  | succ n ih =>
    intro j hj hn
    show ∃ r, X2_earlierTwin_B2 fu (nI T) fr ev nx vr rl nm ac kd aa bb cls (nI s) (X2_earlierTwin_L2 fu (nI T) fr ev nx vr rl nm ac kd aa bb cls (nI s) n) (nI j) = some r ∧ _
    unfold X2_earlierTwin_B2
    by_cases hjs : j = s
    · subst hjs
      rw [if_pos (nI_le (Nat.le_refl j) (by omega))]
      exact ⟨_, rfl, isF_end (Nat.le_refl j)⟩
    · have hj' : j < s := by omega
      rw [if_neg (nI_ge hj' (by omega)), ix_ok (k := j) (n := 12) (by omega) (by decide), ix_ok hs (by decide), nI_clamp (n := j) (by omega), nI_clamp (n := s) (by omega), nI_1]
      obtain ⟨r, hr, hF⟩ := ih (j + 1) (by omega) (by omega)
      by_cases h1 : cls j = cls s
      · rw [if_pos h1]
        obtain ⟨b, hb, w⟩ := same_rows_c (s := j) (o := s) (vr := vr) (rl := rl) (nm := nm) (kd := kd) (aa := aa) (bb := bb) (cls := cls) ok hfu
        rw [hb, ob_s]
        rcases w with ⟨p, z⟩ | ⟨p, z⟩
        · rw [p, if_neg (by decide : ¬ (1 : Int32) = 0)]
          exact ⟨nI j, rfl, isF_here hj' ⟨h1, z⟩⟩
        · rw [if_pos p]
          exact ⟨r, hr, isF_next (fun y => z y.2) hF⟩
      · rw [if_neg h1]
        exact ⟨r, hr, isF_next (fun y => h1 y.1) hF⟩
/-! the reference -/
theorem transition_m {fr ev : Nat → Int32} {T s e : Nat} (hT : T ≤ 40) :
    ∀ (n i j : Nat), j ≤ T → T - j < n → i < 1000 → X4_transition_L6 (nI T) fr ev (nI s) (nI e) n (nI i) (nI j) = some (hd ((trl fr ev T s e j).drop i)) := by
  intro n
  induction n with
  | zero => intro i j _ h; omega
  | succ n ih =>
    intro i j hj hn hi
    show X4_transition_B6 (nI T) fr ev (nI s) (nI e) (X4_transition_L6 (nI T) fr ev (nI s) (nI e) n) (nI i) (nI j) = _
    unfold X4_transition_B6
    by_cases hjT : j = T
    · subst hjT
      rw [if_pos (nI_le (Nat.le_refl j) (by omega)), trl_end, List.drop_nil]
      rfl
    · have hj' : j < T := by omega
      rw [if_neg (nI_ge hj' (by omega)), ix_ok (k := j) (n := 40) (by omega) (by decide), nI_clamp (n := j) (by omega), nI_1, trl_step hj']
      by_cases h1 : fr j = nI s
      · rw [if_pos h1]
        by_cases h2 : ev j = nI e
        · rw [if_pos h2, if_pos (show fr j = nI s ∧ ev j = nI e from ⟨h1, h2⟩)]
          cases i with
          | zero => rw [if_pos (show nI 0 = (0 : Int32) from rfl)]; rfl
          | succ i =>
            rw [if_neg (nI_ne0 (by omega) (by omega)), pk_m1, List.drop_succ_cons]
            exact ih i (j + 1) (by omega) (by omega) (by omega)
        · rw [if_neg h2, if_neg (show ¬ (fr j = nI s ∧ ev j = nI e) from fun q => h2 q.2)]
          exact ih i (j + 1) (by omega) (by omega) hi
      · rw [if_neg h1, if_neg (show ¬ (fr j = nI s ∧ ev j = nI e) from fun q => h1 q.1)]
        exact ih i (j + 1) (by omega) (by omega) hi
theorem i9 : (9 : Int32) = nI 9 := rfl
theorem i12 : (12 : Int32) = nI 12 := rfl
theorem alike_loop {m_sizes m_actions : Nat → Int32} {i j m : Nat} (hi : i < 40) (hj : j < 40) (hm : m ≤ 3) (em : m_sizes i = nI m) :
    ∀ (n k : Nat) (v3 : Int32), (v3 = 0 ∨ v3 = 1) → k ≤ 3 * m → 3 * m - k < n → ∃ b, X4_areAlike_L93 m_sizes m_actions (nI i) (nI j) n v3 (nI k) = some b ∧ isB b (v3 = 1 ∧ ∀ q, k ≤ q → q < 3 * m → m_actions (9 * i + q) = m_actions (9 * j + q)) := by
  intro n
  induction n with
  | zero => intro k _ _ _ h; omega
  | succ n ih =>
    intro k v3 h3 hk hn
    show ∃ b, X4_areAlike_B93 m_sizes m_actions (nI i) (nI j) (X4_areAlike_L93 m_sizes m_actions (nI i) (nI j) n) v3 (nI k) = some b ∧ _
    unfold X4_areAlike_B93
    rw [ix_ok hi (by decide), nI_clamp (n := i) (by omega), em, i3, pk_mul]
    by_cases hkm : k = 3 * m
    · rw [if_pos (nI_le (by omega) (by omega))]
      rcases h3 with e | e
      · rw [e, nz_0]
        exact ⟨0, rfl, Or.inr ⟨rfl, fun y => absurd y.1 (by decide)⟩⟩
      · rw [e, nz_1]
        exact ⟨1, rfl, Or.inl ⟨rfl, rfl, fun q a b => absurd a (by omega)⟩⟩
    · have hk' : k < 3 * m := by omega
      rw [if_neg (nI_ge hk' (by omega))]
      rcases h3 with e | e
      · rw [if_pos e, e, nz_0]
        exact ⟨0, rfl, Or.inr ⟨rfl, fun y => absurd y.1 (by decide)⟩⟩
      · rw [e, if_neg (by decide : ¬ (1 : Int32) = 0), i9, pk_mul, nI_add, pk_mul, nI_add, ix_ok (n := 360) (by omega) (by decide), ix_ok (n := 360) (by omega) (by decide), nI_clamp (n := 9 * i + k) (by omega), nI_clamp (n := 9 * j + k) (by omega), nI_1]
        by_cases h1 : m_actions (9 * i + k) = m_actions (9 * j + k)
        · rw [if_pos h1]
          obtain ⟨b, hb, w⟩ := ih (k + 1) 1 (Or.inr rfl) (by omega) (by omega)
          refine ⟨b, hb, ?_⟩
          rcases w with ⟨p, -, z⟩ | ⟨p, z⟩
          · refine Or.inl ⟨p, rfl, fun q a c => ?_⟩
            by_cases eq : q = k
            · rw [eq]; exact h1
            · exact z q (by omega) c
          · exact Or.inr ⟨p, fun y => z ⟨rfl, fun q a c => y.2 q (by omega) c⟩⟩
        · rw [if_neg h1]
          obtain ⟨b, hb, w⟩ := ih (k + 1) 0 (Or.inl rfl) (by omega) (by omega)
          refine ⟨b, hb, ?_⟩
          rcases w with ⟨-, q, -⟩ | ⟨p, -⟩
          · exact absurd q (by decide)
          · exact Or.inr ⟨p, fun y => h1 (y.2 k (Nat.le_refl k) hk')⟩
