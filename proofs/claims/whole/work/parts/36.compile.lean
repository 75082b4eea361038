/-! the table, on both sides -/
/-- what the two tables have in common -/
def RTb (S C z : Nat) (c_classes c_size c_taken : Int32) (c_stateClass c_usedBits c_offsets c_owners : Nat → Int32) (m_classes : Int32) (m_numbersOf m_offsets m_useds : Nat → Int32) (m_tableSize : Int32) (m_owners : Nat → Int32) : Prop :=
  C ≤ 12 ∧ c_classes = nI C ∧ m_classes = nI C ∧ (∀ s, s < S → c_stateClass s = m_numbersOf s) ∧ (∀ c, c < C → c_offsets c = m_offsets c) ∧ (∀ c, c < C → J6_bitCount_0f7a4 (c_usedBits c) = some (m_useds c)) ∧ LN z c_size c_taken m_tableSize c_owners m_owners
theorem pss_congr {fr nx fr' nx' : Nat → Int32} {T : Nat} (h : ∀ t, t < T → fr t = fr' t ∧ nx t = nx' t) (R : Nat → Bool) : ∀ k, k ≤ T → pss fr nx k R = pss fr' nx' k R := by
  intro k
  induction k with
  | zero => intro _; rfl
  | succ k ih =>
    intro hk
    funext s
    show (pss fr nx k R s || (pss fr nx k R (fr k).toNatClampNeg && decide (s = (nx k).toNatClampNeg))) = (pss fr' nx' k R s || (pss fr' nx' k R (fr' k).toNatClampNeg && decide (s = (nx' k).toNatClampNeg)))
    rw [ih (by omega), (h k (by omega)).1, (h k (by omega)).2]
theorem itr_congr {fr nx fr' nx' : Nat → Int32} {T : Nat} (h : ∀ t, t < T → fr t = fr' t ∧ nx t = nx' t) : ∀ (n : Nat) (R : Nat → Bool), itr fr nx T n R = itr fr' nx' T n R := by
  intro n
  induction n with
  | zero => intro R; rfl
  | succ n ih => intro R; show itr fr nx T n (pss fr nx T R) = itr fr' nx' T n (pss fr' nx' T R); rw [pss_congr h R T (Nat.le_refl T), ih]
theorem lc_surj {Q : Nat → Prop} {r : Nat → Nat → Prop} : ∀ (k c : Nat), c < lc Q r k → ∃ s, s < k ∧ ldr Q r s ∧ lc Q r s = c := by
  intro k
  induction k with
  | zero => intro c h; exact absurd h (Nat.not_lt_zero _)
  | succ k ih =>
    intro c h
    by_cases q : ldr Q r k
    · rw [lc_y q] at h
      by_cases e : c = lc Q r k
      · exact ⟨k, by omega, q, e.symm⟩
      · obtain ⟨s, a, b⟩ := ih c (by omega)
        exact ⟨s, by omega, b⟩
    · rw [lc_n q] at h
      obtain ⟨s, a, b⟩ := ih c h
      exact ⟨s, by omega, b⟩
theorem orb_ev {sel : Nat → Bool} {e1 e2 : Nat → Int32} {T : Nat} (h : ∀ t, t < T → e1 t = e2 t) : ∀ k, k ≤ T → orb sel e1 k = orb sel e2 k := by
  intro k
  induction k with
  | zero => intro _; rfl
  | succ k ih => intro hk; unfold orb; rw [ih (by omega), h k (by omega)]
theorem trl_has {fr ev : Nat → Int32} {T s e : Nat} : (∃ t, t < T ∧ fr t = nI s ∧ ev t = nI e) ↔ ¬ trl fr ev T s e 0 = [] := by
  constructor
  · intro ⟨t, a, b, c⟩ h
    obtain ⟨k, ⟨k1, k2, k3⟩, k4⟩ := pk_least (fun t => t < T ∧ fr t = nI s ∧ ev t = nI e) ⟨t, a, b, c⟩
    rw [trl_cons k1 ⟨k2, k3⟩ k 0 (by omega) (by omega) (fun i _ h2 z => k4 i h2 ⟨by omega, z⟩)] at h
    cases h
  · intro h
    cases h1 : trl fr ev T s e 0 with
    | nil => exact absurd h1 h
    | cons t l =>
      obtain ⟨-, a, b, c, -⟩ := trl_tail T 0 t l (by omega) h1
      exact ⟨t, a, b, c⟩
theorem compile_sim {S T fu : Nat} (hS1 : 1 ≤ S) (hS : S ≤ 12) (hT : T ≤ 40) (hfu : 300 ≤ fu) {c_from c_event c_next c_variable c_relation c_number c_actions c_kind c_a c_b m_froms m_events m_variables m_relations m_numbers m_nexts m_sizes m_actions : Nat → Int32} (hR : ∀ t, t < T → rowR S t c_from c_event c_next c_variable c_relation c_number c_actions c_kind c_a c_b m_froms m_events m_variables m_relations m_numbers m_nexts m_sizes m_actions) (mk cl sz tk : Int32) (sc fi ub of ow : Nat → Int32) (mi mc : Int32) (no mo mu : Nat → Int32) (ts : Int32) (mow rc ap : Nat → Int32) :
    ∃ (C z : Nat) (sz' tk' : Int32) (sc' fi' ub' of' ow' no' mo' mu' : Nat → Int32) (ts' : Int32) (mow' rc' ap' : Nat → Int32), X2_make fu (nI S) (nI T) c_from c_event c_next c_variable c_relation c_number c_actions c_kind c_a c_b mk cl sz tk sc fi ub of ow = some (1, nI C, sz', tk', sc', fi', ub', of', ow') ∧ X4_make fu (nI S) (nI T) m_froms m_events m_variables m_relations m_numbers m_nexts m_sizes m_actions mi mc no mo mu ts mow rc ap = some (1, nI C, no', mo', mu', ts', mow', rc', ap') ∧ RTb S C z (nI C) sz' tk' sc' ub' of' ow' (nI C) no' mo' mu' ts' mow' := by
  have okc : okP S T c_from c_event c_next c_actions := ⟨hS, hT, fun t ht => by
    obtain ⟨⟨s, a, b, -⟩, ⟨e, c, d, -⟩, ⟨x, f, g, -⟩, -, -, -, -, k, k1, k2, -⟩ := hR t ht
    exact ⟨⟨s, a, b⟩, ⟨e, c, d⟩, ⟨x, f, g⟩, k, k1, k2⟩⟩
  have okm : okP S T m_froms m_events m_nexts m_sizes := ⟨hS, hT, fun t ht => by
    obtain ⟨⟨s, a, -, b⟩, ⟨e, c, -, d⟩, ⟨x, f, -, g⟩, -, -, -, -, k, k1, -, k2, -⟩ := hR t ht
    exact ⟨⟨s, a, b⟩, ⟨e, c, d⟩, ⟨x, f, g⟩, k, k1, k2⟩⟩
  have efe : ∀ t, t < T → c_from t = m_froms t ∧ c_event t = m_events t := fun t ht => by
    obtain ⟨⟨s, -, a, b⟩, ⟨e, -, c, d⟩, -⟩ := hR t ht
    exact ⟨by rw [a, b], by rw [c, d]⟩
  have enx : ∀ t, t < T → c_next t = m_nexts t := fun t ht => by
    obtain ⟨-, -, ⟨s, -, a, b⟩, -⟩ := hR t ht
    rw [a, b]
  have hlab : ∀ i j, i < T → j < T → (lab c_variable c_relation c_number c_actions c_kind c_a c_b i j ↔ labm m_variables m_relations m_numbers m_sizes m_actions i j) := by
    intro i j hi hj
    obtain ⟨-, -, -, v1, r1, n1, -, k, hk, k1, k2, A1⟩ := hR i hi
    obtain ⟨-, -, -, v2, r2, n2, -, l, hl, l1, l2, A2⟩ := hR j hj
    unfold lab labm
    rw [v1, v2, r1, r2, n1, n2, k1, l1, k2, l2, nI_clamp (by omega)]
    constructor
    · intro ⟨a, b, c, d, e⟩
      have ekl : k = l := (nI_eq (by omega) (by omega)).mp d
      refine ⟨a, b, c, d, fun q hq => ?_⟩
      obtain ⟨x1, x2, x3⟩ := e (q / 3) (nI_lt (by omega) (by omega)) (by omega)
      obtain ⟨y1, y2, y3, -⟩ := A1 (q / 3) (by omega)
      obtain ⟨w1, w2, w3, -⟩ := A2 (q / 3) (by omega)
      have h3 : q % 3 = 0 ∨ q % 3 = 1 ∨ q % 3 = 2 := by omega
      rcases h3 with h3 | h3 | h3
      · rw [show 9 * i + q = 3 * (3 * i + q / 3) by omega, show 9 * j + q = 3 * (3 * j + q / 3) by omega, y1, w1, x1]
      · rw [show 9 * i + q = 3 * (3 * i + q / 3) + 1 by omega, show 9 * j + q = 3 * (3 * j + q / 3) + 1 by omega, y2, w2, x2]
      · rw [show 9 * i + q = 3 * (3 * i + q / 3) + 2 by omega, show 9 * j + q = 3 * (3 * j + q / 3) + 2 by omega, y3, w3, x3]
    · intro ⟨a, b, c, d, e⟩
      have ekl : k = l := (nI_eq (by omega) (by omega)).mp d
      refine ⟨a, b, c, d, fun q hq h3 => ?_⟩
      have hqk : q < k := (nI_ltI (by omega) (by omega)).mp hq
      obtain ⟨y1, y2, y3, -⟩ := A1 q hqk
      obtain ⟨w1, w2, w3, -⟩ := A2 q (by omega)
      refine ⟨?_, ?_, ?_⟩
      · rw [← y1, ← w1, show 3 * (3 * i + q) = 9 * i + 3 * q by omega, show 3 * (3 * j + q) = 9 * j + 3 * q by omega]; exact e _ (by omega)
      · rw [← y2, ← w2, show 3 * (3 * i + q) + 1 = 9 * i + (3 * q + 1) by omega, show 3 * (3 * j + q) + 1 = 9 * j + (3 * q + 1) by omega]; exact e _ (by omega)
      · rw [← y3, ← w3, show 3 * (3 * i + q) + 2 = 9 * i + (3 * q + 2) by omega, show 3 * (3 * j + q) + 2 = 9 * j + (3 * q + 2) by omega]; exact e _ (by omega)
  have erch : rch m_froms m_nexts S T = rch c_from c_next S T := itr_congr (fun t ht => ⟨(efe t ht).1.symm, (enx t ht).symm⟩) S R0
  obtain ⟨Q, hQdef⟩ : ∃ Q : Nat → Prop, Q = fun s => rch c_from c_next S T s = true := ⟨_, rfl⟩
  have hclo : ∀ t, t < T → Q (c_from t).toNatClampNeg → Q (c_next t).toNatClampNeg := by
    rw [hQdef]
    exact rch_clo hS1 (fun t ht => nxt_lt okc ht)
  have hclom : ∀ t, t < T → Q (m_froms t).toNatClampNeg → Q (m_nexts t).toNatClampNeg := fun t ht => by
    rw [← (efe t ht).1, ← enx t ht]; exact hclo t ht
  have q0 : Q 0 := by rw [hQdef]; exact rch_0
  -- the class
  obtain ⟨f0, hf0, rep0⟩ := reach_c (fr := c_from) (ev := c_event) (nx := c_next) (ac := c_actions) (cls0 := sc) okc (show 50 ≤ fu by omega)
  have g0 : ∀ s, s < S → Q s → f0 s = 0 := fun s hs q => by
    rcases rep0 s (by omega) with ⟨a, -⟩ | ⟨-, b⟩
    · exact a
    · rw [hQdef] at q; rw [b] at q; cases q
  have g1 : ∀ s, s < S → ¬ Q s → f0 s = -1 := fun s hs q => by
    rcases rep0 s (by omega) with ⟨-, b⟩ | ⟨a, -⟩
    · rw [hQdef] at q; exact absurd b q
    · exact a
  have l0 : ldr Q (ceq f0) 0 := ⟨q0, fun q h => absurd h (by omega)⟩
  have nl0 : ∀ s, 1 ≤ s → s < S → ¬ ldr Q (ceq f0) s := fun s h1 h2 l => l.2 0 (by omega) q0 (by show f0 0 = f0 s; rw [g0 0 (by omega) q0, g0 s h2 l.1])
  have lc1 : ∀ k, 1 ≤ k → k ≤ S → lc Q (ceq f0) k = 1 := by
    intro k
    induction k with
    | zero => intro h; omega
    | succ k ih =>
      intro _ h2
      by_cases e : k = 0
      · rw [e, lc_y l0]; rfl
      · rw [lc_n (nl0 k (by omega) (by omega)), ih (by omega) (by omega)]
  have can0 : can S Q (ceq f0) f0 := fun s hs => ⟨g1 s hs, fun l => by
    by_cases e : s = 0
    · rw [e, g0 0 (by omega) q0]; rfl
    · exact absurd l (nl0 s (by omega) hs), fun q _ _ _ h => h.symm⟩
  have mlp := make_loop (vr := c_variable) (rl := c_relation) (nm := c_number) (kd := c_kind) (aa := c_a) (bb := c_b) okc (show 50 ≤ fu by omega) hclo sz tk ub of ow fu 0 f0 fi 0 (fun s hs => ⟨fun q => by rw [g0 s hs q]; decide, fun h => Classical.byContradiction fun q => h (g1 s hs q)⟩) can0 (fun ρ _ a b ha hb qa qb _ => by rw [g0 a ha qa, g0 b hb qb]) (by omega) (by rw [lc1 S hS1 (Nat.le_refl S)]; omega) (by rw [lc1 S hS1 (Nat.le_refl S)]; decide) (by omega)
  rw [lc1 S hS1 (Nat.le_refl S)] at mlp
  obtain ⟨cls, fin, hmk, hQc, hcan, hbis, hmax⟩ := mlp
  have hC := lc_bd (Q := Q) (r := ceq cls) S
  -- the reference
  obtain ⟨r1, hr1, rep1⟩ := reach_m (fr := m_froms) (ev := m_events) (nx := m_nexts) (ac := m_sizes) (rc0 := rc) okm hS1 (show 50 ≤ fu by omega)
  have hrc : ∀ a, a < 12 → (r1 a = 0 ∧ ¬ Q a) ∨ (r1 a = 1 ∧ Q a) := fun a ha => by
    rcases rep1 a ha with ⟨x, y⟩ | ⟨x, y⟩
    · rw [erch] at y; exact Or.inr ⟨x, by rw [hQdef]; exact y⟩
    · rw [erch] at y; exact Or.inl ⟨x, by rw [hQdef]; dsimp only; rw [y]; exact Bool.false_ne_true⟩
  have bism : bis S T m_froms m_events m_nexts (labm m_variables m_relations m_numbers m_sizes m_actions) Q (ceq cls) := fun a b ha hb qa qb h => rg_congr efe enx (fun i j hi hj z => (hlab i j hi hj).mp z) (fun i j _ _ _ _ z => z) (hbis a b ha hb qa qb h)
  obtain ⟨ap1, hap, sym, safe, bisap⟩ := take_m (rc := r1) (ap0 := ap) okm (show 200 ≤ fu by omega) hrc hclom bism (fun a b h => Eq.symm h)
  have back := hmax _ (fun a b ha hb qa qb h => rg_congr (fun t ht => ⟨(efe t ht).1.symm, (efe t ht).2.symm⟩) (fun t ht => (enx t ht).symm) (fun i j hi hj z => (hlab i j hi hj).mpr z) (fun i j _ _ _ _ z => z) (bisap a b ha hb qa qb h))
  have key : ∀ a b, a < S → b < S → Q a → Q b → (ceq cls a b ↔ mre ap1 a b) := fun a b ha hb qa qb => ⟨fun h => safe b a hb ha qb qa (Eq.symm h), fun h => (back b a hb ha qb qa h).symm⟩
  have eqm : eqv S Q (mre ap1) := ⟨fun a ha qa => (key a a ha ha qa qa).mp rfl, fun a b ha hb qa qb h => (key b a hb ha qb qa).mp ((key a b ha hb qa qb).mpr h).symm, fun a b c ha hb hc qa qb qc h h' => (key a c ha hc qa qc).mp (((key a b ha hb qa qb).mpr h).trans ((key b c hb hc qb qc).mpr h'))⟩
  obtain ⟨no', us', xs', hno, cano, hxs⟩ := num_out (mx := m_nexts) (ms := m_sizes) okm (show 50 ≤ fu by omega) hrc eqm mo mow fu 0 no mu (fun _ => 0) (by omega) (by omega) (fun s hs => absurd hs (by omega)) (fun s hs => absurd hs (by omega))
  have lcs : ∀ k, k ≤ S → lc Q (mre ap1) k = lc Q (ceq cls) k := fun k hk => (lc_congr key k hk).symm
  rw [lcs S (Nat.le_refl S), show lc Q (mre ap1) 0 = 0 from rfl] at hno
  have enum : ∀ s, s < S → cls s = no' s := can_uniq eqm (can_congr key hcan) cano
  obtain ⟨C, eC⟩ : ∃ C, C = lc Q (ceq cls) S := ⟨_, rfl⟩
  rw [← eC] at hno hmk
  have hC12 : C ≤ 12 := by omega
  have hcl : ∀ s, s < S → cls s = -1 ∨ ∃ c, c < C ∧ cls s = nI c := fun s hs => by
    by_cases q : Q s
    · obtain ⟨c, a, b⟩ := can_lt ceq_eqv hcan hs q
      exact Or.inr ⟨c, by omega, b⟩
    · exact Or.inl ((hcan s hs).1 q)
  obtain ⟨ub1, hub1, eub⟩ := find_c (fr := c_from) (ev := c_event) (nx := c_next) (ac := c_actions) (cls := cls) (ub0 := ub) okc (show 50 ≤ fu by omega) hC12 hcl
  have evlt : ∀ t, t < T → (c_event t).toNatClampNeg < 8 := fun t ht => by
    obtain ⟨-, ⟨e, he, ee⟩, -⟩ := okc.2.2 t ht
    rw [ee, nI_clamp (by omega)]; exact he
  have hub : ∀ c, c < C → ub1 c = nI (orb (fun t => decide (cls (c_from t).toNatClampNeg = nI c)) c_event T) ∧ xs' c = nI (orb (fun t => decide (cls (c_from t).toNatClampNeg = nI c)) c_event T) ∧ us' c = nI (us' c).toNatClampNeg ∧ J6_bitCount_0f7a4 (nI (orb (fun t => decide (cls (c_from t).toNatClampNeg = nI c)) c_event T)) = some (nI (us' c).toNatClampNeg) ∧ (us' c).toNatClampNeg < 9 := by
    intro c hc
    obtain ⟨s, hs, ls, es⟩ := lc_surj (Q := Q) (r := mre ap1) S c (by rw [lcs S (Nat.le_refl S)]; omega)
    obtain ⟨x1, x2⟩ := hxs s hs ls
    rw [es] at x1 x2
    have clss : cls s = nI c := by
      rw [enum s hs, (cano s hs).2.1 ls, es]
    have same : orb (fun t => decide (m_froms t = nI s)) m_events T = orb (fun t => decide (cls (c_from t).toNatClampNeg = nI c)) c_event T := by
      rw [orb_ev (e1 := m_events) (e2 := c_event) (fun t ht => (efe t ht).2.symm) T (Nat.le_refl T)]
      refine orb_ext (fun i => ⟨fun ⟨t, ht, a, b⟩ => ⟨t, ht, ?_, b⟩, fun ⟨t, ht, a, b⟩ => ?_⟩)
      · rw [decide_eq_true_eq] at a ⊢
        rw [(efe t ht).1, a, nI_clamp (by omega)]; exact clss
      · rw [decide_eq_true_eq] at a
        obtain ⟨⟨s2, hs2, es2⟩, ⟨e, he, ee⟩, -⟩ := okc.2.2 t ht
        rw [es2, nI_clamp (by omega)] at a
        rw [ee, nI_clamp (by omega)] at b
        have qs2 : Q s2 := (hQc s2 hs2).mpr (by rw [a]; exact nI_m1 (by omega))
        have F := hbis s2 s hs2 hs qs2 ls.1 (show cls s2 = cls s by rw [a, clss]) e he
        have ne := (not_congr (F2_nil F)).mp (trl_has.mp ⟨t, ht, es2, ee⟩)
        obtain ⟨t', h1, h2, h3⟩ := trl_has.mpr ne
        exact ⟨t', h1, by rw [decide_eq_true_eq, ← (efe t' h1).1]; exact h2, by rw [h3, nI_clamp (by omega)]; exact b⟩
    rw [same] at x1
    obtain ⟨k, hk, ek⟩ := bc8 _ (orb_lt (sel := fun t => decide (cls (c_from t).toNatClampNeg = nI c)) evlt T (Nat.le_refl T))
    rw [x1, ek] at x2
    have eu : us' c = nI k := (Option.some.inj x2).symm
    rw [eu, nI_clamp (by omega)]
    exact ⟨eub c (by omega), x1, rfl, ek, hk⟩
  -- the line
  obtain ⟨w0, hw0, ew0⟩ := fill_I (fu := fu) (an := 96) (v := -1) (f := ow) (by decide) (by omega)
  obtain ⟨mw0, hmw0, emw0⟩ := mfill (fu := fu) (C := C) (of := mo) (nof := no') (us := us') (rc := r1) (ap := ap1) (xs := xs') (ts := 0) fu 0 mow (by omega) (by omega) (fun i hi => absurd hi (by omega))
  have LN0 : LN 0 0 0 0 w0 mw0 := ⟨by omega, rfl, rfl, by rw [cow_free 96 ew0]; rfl, by rw [cow_free 96 ew0]; omega, fun k hk => by rw [ew0 k hk, emw0 k (by omega)], fun k _ hk => ew0 k hk, fun k hk => Or.inl (ew0 k hk)⟩
  obtain ⟨z, sz', tk', msz', of', mof', owc', owm', y1, y2, y3, y4⟩ := lay_out (fu := fu) (C := C) (ub := ub1) (xs := xs') (us := us') (U := fun c => orb (fun t => decide (cls (c_from t).toNatClampNeg = nI c)) c_event T) (bc := fun c => (us' c).toNatClampNeg) (show 200 ≤ fu by omega) hC12 hub no' r1 ap1 fu fu 9 0 0 0 0 of mo w0 mw0 (by omega) (by omega) (by omega) LN0 (by omega) (fun c hc h => absurd (hub c hc).2.2.2.2 (by omega))
  rw [show nI 9 + -1 = (8 : Int32) from by decide] at y1 y2
  refine ⟨C, z, sz', tk', cls, fin, ub1, of', owc', no', mof', us', msz', owm', r1, ap1, ?_, ?_, hC12, rfl, rfl, enum, y4, fun c hc => by rw [(hub c hc).1, (hub c hc).2.2.2.1, ← (hub c hc).2.2.1], y3⟩
  · unfold X2_make
    rw [hf0, ob_s]
    rw [show (nI 1 : Int32) = 1 from rfl, show (nI 0 : Int32) = 0 from rfl] at hmk
    rw [hmk]
    unfold X2_make_B46 X2_layRows
    rw [hub1, ob_s, hw0, ob_s, y1, ob_s]
  · unfold X4_make
    rw [hr1, ob_s, hap, ob_s]
    rw [show (nI 0 : Int32) = 0 from rfl] at hno hmw0
    rw [hno, hmw0, y2]
