/-! the reference takes states apart -/
theorem trl_mem {fr ev : Nat → Int32} {T s e : Nat} : ∀ (k j t : Nat), T - j ≤ k → t ∈ trl fr ev T s e j → t < T := by
  intro k
  induction k with
  | zero =>
    intro j t h q
    unfold trl at q
    rw [show T - j = 0 by omega] at q
    cases q
  | succ k ih =>
    intro j t h q
    by_cases hj : j < T
    · rw [trl_step hj] at q
      by_cases p : fr j = nI s ∧ ev j = nI e
      · rw [if_pos p] at q
        rcases List.mem_cons.mp q with z | z
        · omega
        · exact ih (j + 1) t (by omega) z
      · rw [if_neg p] at q
        exact ih (j + 1) t (by omega) q
    · unfold trl at q
      rw [show T - j = 0 by omega] at q
      cases q
theorem trl_frm {fr ev : Nat → Int32} {T s e : Nat} : ∀ (k j t : Nat), T - j ≤ k → t ∈ trl fr ev T s e j → fr t = nI s := by
  intro k
  induction k with
  | zero =>
    intro j t h q
    unfold trl at q
    rw [show T - j = 0 by omega] at q
    cases q
  | succ k ih =>
    intro j t h q
    by_cases hj : j < T
    · rw [trl_step hj] at q
      by_cases p : fr j = nI s ∧ ev j = nI e
      · rw [if_pos p] at q
        rcases List.mem_cons.mp q with z | z
        · rw [z]; exact p.1
        · exact ih (j + 1) t (by omega) z
      · rw [if_neg p] at q
        exact ih (j + 1) t (by omega) q
    · unfold trl at q
      rw [show T - j = 0 by omega] at q
      cases q
theorem trl_congr {fr ev fr' ev' : Nat → Int32} {T s e : Nat} (h : ∀ t, t < T → fr t = fr' t ∧ ev t = ev' t) : ∀ (k j : Nat), T - j ≤ k → trl fr ev T s e j = trl fr' ev' T s e j := by
  intro k
  induction k with
  | zero =>
    intro j hk
    unfold trl
    rw [show T - j = 0 by omega]
    rfl
  | succ k ih =>
    intro j hk
    by_cases hj : j < T
    · rw [trl_step hj, trl_step hj, (h j hj).1, (h j hj).2, ih (j + 1) (by omega)]
    · unfold trl
      rw [show T - j = 0 by omega]
      rfl
def cg (fr ev nx : Nat → Int32) (lb : Nat → Nat → Prop) (T : Nat) (r : Nat → Nat → Prop) (s o e : Nat) : Prop := F2 (fun i j => lb i j ∧ r (nx i).toNatClampNeg (nx j).toNatClampNeg) (trl fr ev T s e 0) (trl fr ev T o e 0)
def rg (fr ev nx : Nat → Int32) (lb : Nat → Nat → Prop) (T : Nat) (r : Nat → Nat → Prop) (s o : Nat) : Prop := ∀ e, e < 8 → cg fr ev nx lb T r s o e
theorem rg_congr {fr ev nx fr' ev' nx' : Nat → Int32} {lb lb' : Nat → Nat → Prop} {T : Nat} {r r' : Nat → Nat → Prop} {s o : Nat} (h : ∀ t, t < T → fr t = fr' t ∧ ev t = ev' t) (hn : ∀ t, t < T → nx t = nx' t) (hl : ∀ i j, i < T → j < T → lb i j → lb' i j) (hr : ∀ i j, i < T → j < T → fr i = nI s → fr j = nI o → r (nx i).toNatClampNeg (nx j).toNatClampNeg → r' (nx i).toNatClampNeg (nx j).toNatClampNeg) (q : rg fr ev nx lb T r s o) : rg fr' ev' nx' lb' T r' s o := by
  intro e he
  have q1 := q e he
  unfold cg at q1 ⊢
  rw [← trl_congr h T 0 (by omega), ← trl_congr h T 0 (by omega)]
  refine F2_mono (fun i j hi hj p => ?_) q1
  have i1 := trl_mem T 0 i (by omega) hi
  have j1 := trl_mem T 0 j (by omega) hj
  rw [← hn i i1, ← hn j j1]
  have fi : fr i = nI s ∧ True := ⟨trl_frm T 0 i (by omega) hi, trivial⟩
  exact ⟨hl i j i1 j1 p.1, hr i j i1 j1 fi.1 (trl_frm T 0 j (by omega) hj) p.2⟩
def labm (mv mr mn ms ma : Nat → Int32) (i j : Nat) : Prop := mv i = mv j ∧ mr i = mr j ∧ mn i = mn j ∧ ms i = ms j ∧ ∀ q, q < 3 * (ms i).toNatClampNeg → ma (9 * i + q) = ma (9 * j + q)
theorem alike_m {mv mr mn mx ms ma ap : Nat → Int32} {i j fu : Nat} (hfu : 50 ≤ fu) (hi : i < 40) (hj : j < 40) (hm : ∃ m, m ≤ 3 ∧ ms i = nI m) (hx : ∃ a, a < 12 ∧ mx i = nI a) (hy : ∃ a, a < 12 ∧ mx j = nI a) : ∃ b, X4_areAlike fu mv mr mn mx ms ma ap (nI i) (nI j) = some b ∧ isB b (labm mv mr mn ms ma i j ∧ ap (12 * (mx i).toNatClampNeg + (mx j).toNatClampNeg) = 0) := by
  obtain ⟨m, hm, em⟩ := hm
  obtain ⟨a, ha, ea⟩ := hx
  obtain ⟨c, hc, ec⟩ := hy
  unfold X4_areAlike labm
  rw [ix_ok hi (by decide), ix_ok hj (by decide), nI_clamp (n := i) (by omega), nI_clamp (n := j) (by omega)]
  have no : ∀ {P : Prop}, ¬ P → ∃ b, X4_areAlike_L93 ms ma (nI i) (nI j) fu 0 0 = some b ∧ isB b P := by
    intro P hP
    obtain ⟨b, hb, w⟩ := alike_loop (m_sizes := ms) (m_actions := ma) hi hj hm em fu 0 0 (Or.inl rfl) (by omega) (by omega)
    refine ⟨b, hb, ?_⟩
    rcases w with ⟨-, q, -⟩ | ⟨p, -⟩
    · exact absurd q (by decide)
    · exact Or.inr ⟨p, hP⟩
  by_cases h1 : mv i = mv j
  · rw [if_pos h1]
    by_cases h2 : mr i = mr j
    · rw [if_pos h2]
      by_cases h3 : mn i = mn j
      · rw [if_pos h3]
        by_cases h4 : ms i = ms j
        · rw [if_pos h4, ea, ec, i12, pk_mul, nI_add, ix_ok (n := 144) (by omega) (by decide), nI_clamp (n := 12 * a + c) (by omega), nI_clamp (n := a) (by omega), nI_clamp (n := c) (by omega)]
          by_cases h5 : ap (12 * a + c) = 0
          · rw [if_pos h5]
            obtain ⟨b, hb, w⟩ := alike_loop (m_sizes := ms) (m_actions := ma) hi hj hm em fu 0 1 (Or.inr rfl) (by omega) (by omega)
            refine ⟨b, hb, ?_⟩
            rcases w with ⟨p, -, z⟩ | ⟨p, z⟩
            · exact Or.inl ⟨p, ⟨h1, h2, h3, h4, fun q hq => z q (by omega) (by rw [em, nI_clamp (by omega)] at hq; exact hq)⟩, h5⟩
            · exact Or.inr ⟨p, fun y => z ⟨rfl, fun q _ hq => y.1.2.2.2.2 q (by rw [em, nI_clamp (by omega)]; exact hq)⟩⟩
          · rw [if_neg h5]
            exact no (fun y => h5 y.2)
        · rw [if_neg h4]
          exact no (fun y => h4 y.1.2.2.2.1)
      · rw [if_neg h3]
        exact no (fun y => h3 y.1.2.2.1)
    · rw [if_neg h2]
      exact no (fun y => h2 y.1.2.1)
  · rw [if_neg h1]
    exact no (fun y => h1 y.1.1)
theorem drop_cons {l : List Nat} {c t : Nat} {l1 : List Nat} (h : l.drop c = t :: l1) : l.drop (c + 1) = l1 := by
  rw [← List.drop_drop, h]
  rfl
theorem diff_loop {S T fu s o e : Nat} {mf me mv mr mn mx ms ma ap : Nat → Int32} (ok : okP S T mf me mx ms) (hfu : 50 ≤ fu) (rec2 : Int32 → Option Int32) :
    ∀ (n c : Nat), (trl mf me T s e 0).length - c < n → c ≤ 40 → (F2 (fun i j => labm mv mr mn ms ma i j ∧ ap (12 * (mx i).toNatClampNeg + (mx j).toNatClampNeg) = 0) ((trl mf me T s e 0).drop c) ((trl mf me T o e 0).drop c) ∧ X4_areDifferent_L29 fu (nI T) mf me mv mr mn mx ms ma ap (nI s) (nI o) rec2 n (nI e) (nI c) (hd ((trl mf me T s e 0).drop c)) (hd ((trl mf me T o e 0).drop c)) = rec2 (nI e + 1)) ∨ (¬ F2 (fun i j => labm mv mr mn ms ma i j ∧ ap (12 * (mx i).toNatClampNeg + (mx j).toNatClampNeg) = 0) ((trl mf me T s e 0).drop c) ((trl mf me T o e 0).drop c) ∧ X4_areDifferent_L29 fu (nI T) mf me mv mr mn mx ms ma ap (nI s) (nI o) rec2 n (nI e) (nI c) (hd ((trl mf me T s e 0).drop c)) (hd ((trl mf me T o e 0).drop c)) = some 1) := by
  have hT := ok.2.1
  have len := trl_len (fr := mf) (ev := me) (T := T) (s := s) (e := e) T 0 (by omega)
  intro n
  induction n with
  | zero => intro c h; omega
  | succ n ih =>
    intro c hn hc
    have un : ∀ a b, X4_areDifferent_L29 fu (nI T) mf me mv mr mn mx ms ma ap (nI s) (nI o) rec2 (n + 1) (nI e) (nI c) a b = X4_areDifferent_B29 fu (nI T) mf me mv mr mn mx ms ma ap (nI s) (nI o) rec2 (X4_areDifferent_L29 fu (nI T) mf me mv mr mn mx ms ma ap (nI s) (nI o) rec2 n) (nI e) (nI c) a b := fun _ _ => rfl
    rw [un]
    unfold X4_areDifferent_B29 X4_areDifferent_B78
    cases h1 : (trl mf me T s e 0).drop c with
    | nil =>
      rw [if_pos (show hd ([] : List Nat) = -1 from rfl), if_pos (show hd ([] : List Nat) = -1 from rfl)]
      cases h2 : (trl mf me T o e 0).drop c with
      | nil => exact Or.inl ⟨trivial, if_pos rfl⟩
      | cons t l =>
        have ht : t < T := trl_mem T 0 t (by omega) (List.mem_of_mem_drop (i := c) (by rw [h2]; exact List.mem_cons_self))
        exact Or.inr ⟨fun q => q, if_neg (nI_m1 (by omega))⟩
    | cons t1 l1 =>
      have b1 : t1 < T := trl_mem T 0 t1 (by omega) (List.mem_of_mem_drop (i := c) (by rw [h1]; exact List.mem_cons_self))
      have m1 : ¬ hd (t1 :: l1) = -1 := nI_m1 (by omega)
      have hlen : c < (trl mf me T s e 0).length := by
        rcases Nat.lt_or_ge c (trl mf me T s e 0).length with z | z
        · exact z
        · rw [List.drop_eq_nil_of_le z] at h1; cases h1
      rw [if_neg m1, if_neg m1]
      cases h2 : (trl mf me T o e 0).drop c with
      | nil =>
        rw [if_pos (show hd ([] : List Nat) = -1 from rfl)]
        exact Or.inr ⟨fun q => q, rfl⟩
      | cons t2 l2 =>
        have b2 : t2 < T := trl_mem T 0 t2 (by omega) (List.mem_of_mem_drop (i := c) (by rw [h2]; exact List.mem_cons_self))
        have m2 : ¬ hd (t2 :: l2) = -1 := nI_m1 (by omega)
        rw [if_neg m2, show hd (t1 :: l1) = nI t1 from rfl, show hd (t2 :: l2) = nI t2 from rfl]
        have hS : S ≤ 12 := ok.1
        obtain ⟨-, -, ⟨n1, hn1, en1⟩, k1⟩ := ok.2.2 t1 b1
        obtain ⟨-, -, ⟨n2, hn2, en2⟩, k2⟩ := ok.2.2 t2 b2
        obtain ⟨b, hb, w⟩ := alike_m (mv := mv) (mr := mr) (mn := mn) (mx := mx) (ms := ms) (ma := ma) (ap := ap) (i := t1) (j := t2) hfu (by omega) (by omega) k1 ⟨n1, by omega, en1⟩ ⟨n2, by omega, en2⟩
        rw [hb, ob_s]
        unfold F2
        rcases w with ⟨p, z⟩ | ⟨p, z⟩
        · rw [p, if_neg (by decide : ¬ (1 : Int32) = 0)]
          unfold X4_transition
          rw [nI_1, show (0 : Int32) = nI 0 from rfl, transition_m hT fu (c + 1) 0 (by omega) (by omega) (by omega), ob_s, transition_m hT fu (c + 1) 0 (by omega) (by omega) (by omega), ob_s]
          have := ih (c + 1) (by omega) (by omega)
          rw [drop_cons h1, drop_cons h2] at this
          rw [drop_cons h1, drop_cons h2]
          rcases this with ⟨y1, y2⟩ | ⟨y1, y2⟩
          · exact Or.inl ⟨⟨z, y1⟩, y2⟩
          · exact Or.inr ⟨fun q => y1 q.2, y2⟩
        · rw [if_pos p]
          exact Or.inr ⟨fun q => z q.1, rfl⟩
theorem diff_m {S T fu s o : Nat} {mf me mv mr mn mx ms ma ap : Nat → Int32} (ok : okP S T mf me mx ms) (hfu : 50 ≤ fu) :
    ∀ (n e : Nat), e ≤ 8 → 8 - e < n → ∃ b, X4_areDifferent_L2 fu (nI T) mf me mv mr mn mx ms ma ap (nI s) (nI o) n (nI e) = some b ∧ isB b (¬ ∀ q, e ≤ q → q < 8 → cg mf me mx (labm mv mr mn ms ma) T (fun a b => ap (12 * a + b) = 0) s o q) := by
  have hT := ok.2.1
  intro n
  induction n with
  | zero => intro e _ h; omega
  | succ n ih =>
    intro e he hn
    show ∃ b, X4_areDifferent_B2 fu (nI T) mf me mv mr mn mx ms ma ap (nI s) (nI o) (X4_areDifferent_L2 fu (nI T) mf me mv mr mn mx ms ma ap (nI s) (nI o) n) (nI e) = some b ∧ _
    unfold X4_areDifferent_B2
    by_cases he8 : e = 8
    · subst he8
      rw [if_pos (by decide)]
      exact ⟨0, rfl, Or.inr ⟨rfl, fun q => q (fun q a b => absurd a (by omega))⟩⟩
    · rw [if_neg (show ¬ (8 : Int32) ≤ nI e from nI_ge (b := 8) (by omega) (by omega))]
      unfold X4_transition
      rw [show (0 : Int32) = nI 0 from rfl, transition_m hT fu 0 0 (by omega) (by omega) (by omega), ob_s, transition_m hT fu 0 0 (by omega) (by omega) (by omega), ob_s]
      have len := trl_len (fr := mf) (ev := me) (T := T) (s := s) (e := e) T 0 (by omega)
      have key := diff_loop (mv := mv) (mr := mr) (mn := mn) (ma := ma) (ap := ap) (s := s) (o := o) (e := e) ok hfu (X4_areDifferent_L2 fu (nI T) mf me mv mr mn mx ms ma ap (nI s) (nI o) n) fu 0 (by omega) (by omega)
      rcases key with ⟨y1, y2⟩ | ⟨y1, y2⟩
      · rw [y2, nI_1]
        obtain ⟨b, hb, w⟩ := ih (e + 1) (by omega) (by omega)
        refine ⟨b, hb, ?_⟩
        rcases w with ⟨p, z⟩ | ⟨p, z⟩
        · exact Or.inl ⟨p, fun y => z (fun q a c => y q (by omega) c)⟩
        · refine Or.inr ⟨p, fun y => z (fun y2 => y (fun q a c => ?_))⟩
          by_cases eq : q = e
          · rw [eq]; exact y1
          · exact y2 q (by omega) c
      · rw [y2]
        exact ⟨1, rfl, Or.inl ⟨rfl, fun y => y1 (y e (Nat.le_refl e) (by omega))⟩⟩
theorem different_m {S T fu s o : Nat} {mf me mv mr mn mx ms ma ap : Nat → Int32} (ok : okP S T mf me mx ms) (hfu : 50 ≤ fu) : ∃ b, X4_areDifferent fu (nI T) mf me mv mr mn mx ms ma ap (nI s) (nI o) = some b ∧ isB b (¬ rg mf me mx (labm mv mr mn ms ma) T (fun a b => ap (12 * a + b) = 0) s o) := by
  unfold X4_areDifferent
  rw [show (0 : Int32) = nI 0 from rfl]
  obtain ⟨b, hb, w⟩ := diff_m (mv := mv) (mr := mr) (mn := mn) (ma := ma) (ap := ap) (s := s) (o := o) ok hfu fu 0 (by omega) (by omega)
  refine ⟨b, hb, ?_⟩
  rcases w with ⟨p, z⟩ | ⟨p, z⟩
  · exact Or.inl ⟨p, fun y => z (fun q _ c => y q c)⟩
  · exact Or.inr ⟨p, fun y => z (fun y2 => y (fun q c => y2 q (by omega) c))⟩
