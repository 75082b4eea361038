/-! used cells, as bits (fa_or, fb_bit_set: rows of the kit's NUMBERS and COUNTS) -/
theorem fa_or (a b : Nat) : nI a ||| nI b = nI (a ||| b) := by
  apply Int32.toBitVec_inj.1
  show BitVec.ofNat 32 a ||| BitVec.ofNat 32 b = BitVec.ofNat 32 (a ||| b)
  apply BitVec.eq_of_getLsbD_eq
  intro i hi
  simp [hi]
theorem fb_bit_set (n j i : Nat) : (n ||| 2 ^ j).testBit i = (n.testBit i || decide (i = j)) := by
  rw [Nat.testBit_or]
  by_cases h : j = i
  · subst h; simp
  · have h2 : ¬ i = j := fun e => h e.symm
    first | (simp [Nat.testBit_two_pow, h, h2]; done) | (simp [Nat.testBit_two_pow_of_ne h, h2]; done)
def orb (sel : Nat → Bool) (ev : Nat → Int32) : Nat → Nat
  | 0 => 0
  | k + 1 => if sel k = true then orb sel ev k ||| 2 ^ (ev k).toNatClampNeg else orb sel ev k
theorem orb_bit {sel : Nat → Bool} {ev : Nat → Int32} {i : Nat} : ∀ k, (orb sel ev k).testBit i = true ↔ ∃ t, t < k ∧ sel t = true ∧ (ev t).toNatClampNeg = i := by
  intro k
  induction k with
  | zero => exact ⟨fun h => by simp [orb] at h, fun ⟨t, h, _⟩ => absurd h (by omega)⟩
  | succ k ih =>
    unfold orb
    by_cases h : sel k = true
    · rw [if_pos h, fb_bit_set, Bool.or_eq_true, decide_eq_true_eq, ih]
      constructor
      · intro q
        rcases q with ⟨t, a, b⟩ | q
        · exact ⟨t, by omega, b⟩
        · exact ⟨k, by omega, h, q.symm⟩
      · intro ⟨t, a, b, c⟩
        by_cases e : t = k
        · rw [e] at c; exact Or.inr c.symm
        · exact Or.inl ⟨t, by omega, b, c⟩
    · rw [if_neg h, ih]
      constructor
      · intro ⟨t, a, b⟩; exact ⟨t, by omega, b⟩
      · intro ⟨t, a, b, c⟩
        by_cases e : t = k
        · rw [e] at b; exact absurd b h
        · exact ⟨t, by omega, b, c⟩
theorem orb_lt {sel : Nat → Bool} {ev : Nat → Int32} {T : Nat} (h : ∀ t, t < T → (ev t).toNatClampNeg < 8) : ∀ k, k ≤ T → orb sel ev k < 2 ^ 8 := by
  intro k
  induction k with
  | zero => intro _; exact Nat.two_pow_pos 8
  | succ k ih =>
    intro hk
    unfold orb
    have i1 := ih (by omega)
    by_cases q : sel k = true
    · rw [if_pos q]
      exact Nat.or_lt_two_pow i1 (Nat.pow_lt_pow_right (by omega) (h k (by omega)))
    · rw [if_neg q]; exact i1
theorem orb_ext {s1 s2 : Nat → Bool} {ev : Nat → Int32} {T : Nat} (h : ∀ i, (∃ t, t < T ∧ s1 t = true ∧ (ev t).toNatClampNeg = i) ↔ (∃ t, t < T ∧ s2 t = true ∧ (ev t).toNatClampNeg = i)) : orb s1 ev T = orb s2 ev T := by
  apply Nat.eq_of_testBit_eq
  intro i
  have := (orb_bit (sel := s1) (ev := ev) (i := i) T).trans ((h i).trans (orb_bit (sel := s2) (ev := ev) (i := i) T).symm)
  cases h1 : (orb s1 ev T).testBit i <;> cases h2 : (orb s2 ev T).testBit i <;> simp_all
theorem sh8 : ∀ e, e < 8 → (1 : Int32) <<< (nI e &&& 31) = nI (2 ^ e) := by decide
theorem used_c {S T : Nat} {fr ev nx ac cls : Nat → Int32} (ok : okP S T fr ev nx ac) {C : Nat} (hC : C ≤ 12) (hcl : ∀ s, s < S → cls s = -1 ∨ ∃ c, c < C ∧ cls s = nI c) :
    ∀ (n k : Nat) (ub : Nat → Int32), k ≤ T → T - k < n → (∀ c, c < 12 → ub c = nI (orb (fun t => decide (cls (fr t).toNatClampNeg = nI c)) ev k)) → ∃ ub', X2_findUsedCells_L10 (nI T) fr ev cls n ub (nI k) = some ub' ∧ ∀ c, c < 12 → ub' c = nI (orb (fun t => decide (cls (fr t).toNatClampNeg = nI c)) ev T) := by
  have hS : S ≤ 12 := ok.1
  have hT : T ≤ 40 := ok.2.1
  intro n
  induction n with
  | zero => intro k _ _ h; omega
  | succ n ih =>
    intro k ub hk hn hub
    show ∃ ub', X2_findUsedCells_B10 (nI T) fr ev cls (X2_findUsedCells_L10 (nI T) fr ev cls n) ub (nI k) = some ub' ∧ _
    unfold X2_findUsedCells_B10
    by_cases hkT : k = T
    · subst hkT
      rw [if_pos (nI_le (Nat.le_refl k) (by omega))]
      exact ⟨ub, rfl, hub⟩
    · have hk' : k < T := by omega
      obtain ⟨⟨a, ha, ea⟩, ⟨e, he, ee⟩, -, -⟩ := ok.2.2 k hk'
      rw [if_neg (nI_ge hk' (by omega)), ix_ok (k := k) (n := 40) (by omega) (by decide), nI_clamp (n := k) (by omega), ea, ee, ix_ok (k := a) (n := 12) (by omega) (by decide), nI_clamp (n := a) (by omega), nI_1]
      rcases hcl a ha with q | ⟨c, hc, q⟩
      · rw [if_pos q]
        refine ih (k + 1) ub (by omega) (by omega) (fun c hc => ?_)
        rw [hub c hc]
        show _ = nI (if (decide (cls (fr k).toNatClampNeg = nI c)) = true then _ else _)
        rw [if_neg]
        rw [ea, nI_clamp (n := a) (by omega), q, decide_eq_true_eq]
        exact fun z => nI_m1 (by omega) z.symm
      · rw [q, if_neg (nI_m1 (by omega)), ix_ok (k := c) (n := 12) (by omega) (by decide), nI_clamp (n := c) (by omega), sh8 e he]
        refine ih (k + 1) _ (by omega) (by omega) (fun d hd => ?_)
        show _ = nI (if (decide (cls (fr k).toNatClampNeg = nI d)) = true then _ else _)
        rw [ea, nI_clamp (n := a) (by omega), q, ee, nI_clamp (n := e) (by omega)]
        by_cases ed : d = c
        · rw [ed, upd_s, if_pos (decide_eq_true rfl), hub c (by omega), fa_or]
        · rw [upd_n ed, hub d hd, if_neg]
          rw [decide_eq_true_eq]
          exact fun z => ed ((nI_eq (by omega) (by omega)).mp z).symm
theorem find_c {S T fu : Nat} {fr ev nx ac cls ub0 : Nat → Int32} (ok : okP S T fr ev nx ac) (hfu : 50 ≤ fu) {C : Nat} (hC : C ≤ 12) (hcl : ∀ s, s < S → cls s = -1 ∨ ∃ c, c < C ∧ cls s = nI c) : ∃ ub, X2_findUsedCells fu (nI T) fr ev cls ub0 = some ub ∧ ∀ c, c < 12 → ub c = nI (orb (fun t => decide (cls (fr t).toNatClampNeg = nI c)) ev T) := by
  unfold X2_findUsedCells
  have hT : T ≤ 40 := ok.2.1
  obtain ⟨f0, h0, e0⟩ := fill_I (fu := fu) (an := 12) (v := 0) (f := ub0) (by decide) (by omega)
  rw [h0, ob_s, show (0 : Int32) = nI 0 from rfl]
  exact used_c ok hC hcl fu 0 f0 (by omega) (by omega) (fun c hc => by rw [e0 c hc]; rfl)
theorem used_m {S T : Nat} {fr ev nx ac : Nat → Int32} (ok : okP S T fr ev nx ac) (s : Nat) :
    ∀ (n k : Nat), k ≤ T → T - k < n → X4_usedEvents_L4 (nI T) fr ev (nI s) n (nI (orb (fun t => decide (fr t = nI s)) ev k)) (nI k) = some (nI (orb (fun t => decide (fr t = nI s)) ev T)) := by
  have hT : T ≤ 40 := ok.2.1
  intro n
  induction n with
  | zero => intro k _ h; omega
  | succ n ih =>
    intro k hk hn
    show X4_usedEvents_B4 (nI T) fr ev (nI s) (X4_usedEvents_L4 (nI T) fr ev (nI s) n) _ (nI k) = _
    unfold X4_usedEvents_B4
    by_cases hkT : k = T
    · subst hkT
      rw [if_pos (nI_le (Nat.le_refl k) (by omega))]
    · have hk' : k < T := by omega
      obtain ⟨-, ⟨e, he, ee⟩, -, -⟩ := ok.2.2 k hk'
      rw [if_neg (nI_ge hk' (by omega)), ix_ok (k := k) (n := 40) (by omega) (by decide), nI_clamp (n := k) (by omega), ee, nI_1]
      have i1 := ih (k + 1) (by omega) (by omega)
      have un : orb (fun t => decide (fr t = nI s)) ev (k + 1) = if decide (fr k = nI s) = true then orb (fun t => decide (fr t = nI s)) ev k ||| 2 ^ (ev k).toNatClampNeg else orb (fun t => decide (fr t = nI s)) ev k := rfl
      by_cases q : fr k = nI s
      · rw [if_pos q, sh8 e he, fa_or]
        rw [un, if_pos (decide_eq_true q), ee, nI_clamp (n := e) (by omega)] at i1
        exact i1
      · rw [if_neg q]
        rw [un, if_neg (by rw [decide_eq_true_eq]; exact q)] at i1
        exact i1
theorem bc8 : ∀ u, u < 256 → ∃ k, k < 9 ∧ J6_bitCount_0f7a4 (nI u) = some (nI k) := by
  have h : ∀ u, u < 256 → (List.range 9).any (fun k => decide (J6_bitCount_0f7a4 (nI u) = some (nI k))) = true := by decide +kernel
  intro u hu
  obtain ⟨k, h1, h2⟩ := List.any_eq_true.mp (h u hu)
  exact ⟨k, List.mem_range.mp h1, decide_eq_true_eq.mp h2⟩
/-! the reference numbers its classes -/
section NU
variable {S T fu : Nat} {mf me mx ms : Nat → Int32} {Q : Nat → Prop} {rc ap : Nat → Int32}
def mre (ap : Nat → Int32) (a b : Nat) : Prop := ap (12 * b + a) = 0
/-- the search for an earlier state of the class of s -/
theorem num_in (hS : S ≤ 12) (hfu : 50 ≤ fu) (hrc : ∀ a, a < 12 → (rc a = 0 ∧ ¬ Q a) ∨ (rc a = 1 ∧ Q a)) (rec20 : Int32 → (Nat → Int32) → (Nat → Int32) → (Nat → Int32) → (Nat → Int32) → (Nat → Int32) → Int32 → Option (Int32 × Int32 × (Nat → Int32) × (Nat → Int32) × (Nat → Int32) × Int32 × (Nat → Int32) × (Nat → Int32) × (Nat → Int32))) (cl : Int32) (us xs : Nat → Int32) {s : Nat} (hs : s < S) :
    ∀ (n o : Nat) (f : Nat → Int32), o ≤ s → s - o < n → f s = -1 → (∀ q, q < o → Q q → ¬ mre ap q s) → (∀ q, q < s → Q q → ¬ f q = -1) → ∃ f', X4_make_L49 fu (nI T) mf me rec20 n cl f us rc ap xs (nI s) (nI o) = X4_make_B105 fu (nI T) mf me rec20 cl f' us rc ap xs (nI s) ∧ (∀ q, ¬ q = s → f' q = f q) ∧ ((f' s = -1 ∧ ∀ q, q < s → Q q → ¬ mre ap q s) ∨ (∃ q, q < s ∧ Q q ∧ mre ap q s ∧ f' s = f q)) := by
  intro n
  induction n with
  | zero => intro o f _ h; omega
  | succ n ih =>
    intro o f ho hn hfs hno hfq
    show ∃ f', X4_make_B49 fu (nI T) mf me rec20 (X4_make_L49 fu (nI T) mf me rec20 n) cl f us rc ap xs (nI s) (nI o) = _ ∧ _
    unfold X4_make_B49
    by_cases hos : o = s
    · subst hos
      rw [if_pos (nI_le (Nat.le_refl o) (by omega))]
      exact ⟨f, rfl, fun _ _ => rfl, Or.inl ⟨hfs, hno⟩⟩
    · have ho' : o < s := by omega
      rw [if_neg (nI_ge ho' (by omega)), ix_ok (k := s) (n := 12) (by omega) (by decide), nI_clamp (n := s) (by omega), if_pos hfs, ix_ok (k := o) (n := 12) (by omega) (by decide), nI_clamp (n := o) (by omega), i12, pk_mul, nI_add, ix_ok (n := 144) (by omega) (by decide), nI_clamp (n := 12 * s + o) (by omega), nI_1]
      rcases hrc o (by omega) with ⟨r0, nq⟩ | ⟨r1, qo⟩
      · rw [if_pos r0]
        refine ih (o + 1) f (by omega) (by omega) hfs (fun q hq qq => ?_) hfq
        by_cases e : q = o
        · rw [e] at qq; exact absurd qq nq
        · exact hno q (by omega) qq
      · rw [r1, if_neg (by decide : ¬ (1 : Int32) = 0)]
        by_cases h : ap (12 * s + o) = 0
        · rw [if_pos h]
          refine ⟨upd f s (f o), ?_, fun q e => upd_n e, Or.inr ⟨o, ho', qo, h, upd_s⟩⟩
          cases n with
          | zero => omega
          | succ n =>
            show X4_make_B49 fu (nI T) mf me rec20 (X4_make_L49 fu (nI T) mf me rec20 n) cl (upd f s (f o)) us rc ap xs (nI s) (nI (o + 1)) = _
            unfold X4_make_B49
            by_cases q : nI s ≤ nI (o + 1)
            · rw [if_pos q]
            · rw [if_neg q, ix_ok (k := s) (n := 12) (by omega) (by decide), nI_clamp (n := s) (by omega), upd_s, if_neg (hfq o ho' qo)]
        · rw [if_neg h]
          refine ih (o + 1) f (by omega) (by omega) hfs (fun q hq qq => ?_) hfq
          by_cases e : q = o
          · rw [e]; exact h
          · exact hno q (by omega) qq
theorem num_out (ok : okP S T mf me mx ms) (hfu : 50 ≤ fu) (hrc : ∀ a, a < 12 → (rc a = 0 ∧ ¬ Q a) ∨ (rc a = 1 ∧ Q a)) (he : eqv S Q (mre ap)) (of ow : Nat → Int32) :
    ∀ (n j : Nat) (f us xs : Nat → Int32), j ≤ S → S - j < n → can j Q (mre ap) f → (∀ s, s < j → ldr Q (mre ap) s → xs (lc Q (mre ap) s) = nI (orb (fun t => decide (mf t = nI s)) me T) ∧ J6_bitCount_0f7a4 (xs (lc Q (mre ap) s)) = some (us (lc Q (mre ap) s))) → ∃ f' us' xs' : Nat → Int32, X4_make_L20 fu (nI S) (nI T) mf me of ow n (nI (lc Q (mre ap) j)) f us rc ap xs (nI j) = X4_make_L180 fu of fu (nI (lc Q (mre ap) S)) f' us' 0 ow rc ap xs' 0 ∧ can S Q (mre ap) f' ∧ ∀ s, s < S → ldr Q (mre ap) s → xs' (lc Q (mre ap) s) = nI (orb (fun t => decide (mf t = nI s)) me T) ∧ J6_bitCount_0f7a4 (xs' (lc Q (mre ap) s)) = some (us' (lc Q (mre ap) s)) := by
  have hS : S ≤ 12 := ok.1
  have hT : T ≤ 40 := ok.2.1
  intro n
  induction n with
  | zero => intro j _ _ _ _ h; omega
  | succ n ih =>
    intro j f us xs hj hn hf hx
    show ∃ f' us' xs', X4_make_B20 fu (nI S) (nI T) mf me of ow (X4_make_L20 fu (nI S) (nI T) mf me of ow n) (nI (lc Q (mre ap) j)) f us rc ap xs (nI j) = _ ∧ _
    unfold X4_make_B20
    by_cases hjS : j = S
    · subst hjS
      rw [if_pos (nI_le (Nat.le_refl j) (by omega))]
      exact ⟨f, us, xs, rfl, hf, hx⟩
    · have hj' : j < S := by omega
      rw [if_neg (nI_ge hj' (by omega)), ix_ok (k := j) (n := 12) (by omega) (by decide), nI_clamp (n := j) (by omega)]
      have keep : ∀ x, (¬ Q j → x = -1) → (ldr Q (mre ap) j → x = nI (lc Q (mre ap) j)) → (∀ q, q < j → Q q → Q j → mre ap q j → x = f q) → ∀ g : Nat → Int32, (∀ s, ¬ s = j → g s = f s) → g j = x → can (j + 1) Q (mre ap) g := by
        intro x h1 h2 h3 g g1 g2 s hs
        by_cases e : s = j
        · subst e
          rw [g2]
          exact ⟨h1, h2, fun q hq a b c => by rw [g1 q (by omega)]; exact h3 q hq a b c⟩
        · obtain ⟨a, b, c⟩ := hf s (by omega)
          rw [g1 s e]
          exact ⟨a, b, fun q hq x y z => by rw [g1 q (by omega)]; exact c q hq x y z⟩
      have bd := lc_bd (Q := Q) (r := mre ap) j
      rcases hrc j (by omega) with ⟨r0, nq⟩ | ⟨r1, qj⟩
      · rw [if_pos r0, nI_1]
        obtain ⟨f', us', xs', z1, z2, z3⟩ := ih (j + 1) (upd f j (-1)) us xs (by omega) (by omega) (keep (-1) (fun _ => rfl) (fun l => absurd l.1 nq) (fun q _ _ b => absurd b nq) _ (fun s e => upd_n e) upd_s) (fun s hs l => by
          by_cases e : s = j
          · rw [e] at l; exact absurd l.1 nq
          · exact hx s (by omega) l)
        rw [lc_n (fun l => nq l.1)] at z1
        exact ⟨f', us', xs', z1, z2, z3⟩
      · rw [r1, if_neg (by decide : ¬ (1 : Int32) = 0), show (0 : Int32) = nI 0 from rfl]
        obtain ⟨g, y1, y2, y3⟩ := num_in (fu := fu) (T := T) (mf := mf) (me := me) (ap := ap) hS hfu hrc (X4_make_L20 fu (nI S) (nI T) mf me of ow n) (nI (lc Q (mre ap) j)) us xs hj' fu 0 (upd f j (-1)) (by omega) (by omega) upd_s (fun q hq => absurd hq (by omega)) (fun q hq qq => by
          rw [upd_n (show ¬ q = j by omega)]
          obtain ⟨c, c1, c2, c3, c4⟩ := can_ldr (S := j) (f := f) ⟨fun a ha qa => he.1 a (by omega) qa, fun a b ha hb qa qb h => he.2.1 a b (by omega) (by omega) qa qb h, fun a b c ha hb hc qa qb qc h h' => he.2.2 a b c (by omega) (by omega) (by omega) qa qb qc h h'⟩ hf hq qq
          have := lc_bd (Q := Q) (r := mre ap) c
          rw [c4]; exact nI_m1 (by omega))
        rw [y1]
        unfold X4_make_B105
        rw [ix_ok (k := j) (n := 12) (by omega) (by decide), nI_clamp (n := j) (by omega)]
        rcases y3 with ⟨e, no⟩ | ⟨q, hq, qq, hr, e⟩
        · rw [if_pos e]
          have l : ldr Q (mre ap) j := ⟨qj, no⟩
          unfold X4_usedEvents
          rw [show (0 : Int32) = nI (orb (fun t => decide (mf t = nI j)) me 0) from rfl, show nI (orb (fun t => decide (mf t = nI j)) me 0) = nI 0 from rfl]
          have um := used_m ok j fu 0 (by omega) (by omega)
          rw [show orb (fun t => decide (mf t = nI j)) me 0 = 0 from rfl] at um
          rw [um, ob_s, ix_ok (n := 12) (by omega) (by decide), nI_clamp (n := lc Q (mre ap) j) (by omega), upd_s]
          obtain ⟨k, hk, ek⟩ := bc8 (orb (fun t => decide (mf t = nI j)) me T) (orb_lt (T := T) (fun t ht => by
            obtain ⟨-, ⟨e, he, ee⟩, -, -⟩ := ok.2.2 t ht
            rw [ee, nI_clamp (by omega)]; exact he) T (Nat.le_refl T))
          rw [ek, ob_s, nI_1, nI_1]
          obtain ⟨f', us', xs', z1, z2, z3⟩ := ih (j + 1) (upd g j (nI (lc Q (mre ap) j))) (upd us (lc Q (mre ap) j) (nI k)) (upd xs (lc Q (mre ap) j) (nI (orb (fun t => decide (mf t = nI j)) me T))) (by omega) (by omega) (keep (nI (lc Q (mre ap) j)) (fun z => absurd qj z) (fun _ => rfl) (fun q hq qq _ z => absurd z (no q hq qq)) _ (fun s e => by rw [upd_n e, y2 s e, upd_n e]) upd_s) (fun s hs ls => by
            by_cases es : s = j
            · rw [es, upd_s, upd_s]; exact ⟨rfl, ek⟩
            · have hlt := lc_lt ls (show s < j by omega)
              rw [upd_n (show ¬ lc Q (mre ap) s = lc Q (mre ap) j by omega), upd_n (show ¬ lc Q (mre ap) s = lc Q (mre ap) j by omega)]
              exact hx s (by omega) ls)
          rw [lc_y l] at z1
          exact ⟨f', us', xs', z1, z2, z3⟩
        · have nl : ¬ ldr Q (mre ap) j := fun l => l.2 q hq qq hr
          have fq : ¬ g j = -1 := by
            rw [e, upd_n (show ¬ q = j by omega)]
            obtain ⟨c, c1, c2, c3, c4⟩ := can_ldr (S := j) (f := f) ⟨fun a ha qa => he.1 a (by omega) qa, fun a b ha hb qa qb h => he.2.1 a b (by omega) (by omega) qa qb h, fun a b c ha hb hc qa qb qc h h' => he.2.2 a b c (by omega) (by omega) (by omega) qa qb qc h h'⟩ hf hq qq
            have := lc_bd (Q := Q) (r := mre ap) c
            rw [c4]; exact nI_m1 (by omega)
          rw [if_neg fq, nI_1]
          rw [upd_n (show ¬ q = j by omega)] at e
          obtain ⟨f', us', xs', z1, z2, z3⟩ := ih (j + 1) g us xs (by omega) (by omega) (keep (f q) (fun z => absurd qj z) (fun l => absurd l nl) (fun p hp qp _ z => by
            have w : mre ap p q := he.2.2 p j q (by omega) hj' (by omega) qp qj qq z (he.2.1 q j (by omega) hj' qq qj hr)
            rcases Nat.lt_trichotomy p q with y | y | y
            · exact (hf q hq).2.2 p y qp qq w
            · rw [y]
            · exact ((hf p hp).2.2 q y qq qp (he.2.1 p q (by omega) (by omega) qp qq w)).symm) _ (fun s es => by rw [y2 s es, upd_n es]) e) (fun s hs ls => by
            by_cases es : s = j
            · rw [es] at ls; exact absurd ls nl
            · exact hx s (by omega) ls)
          rw [lc_n nl] at z1
          exact ⟨f', us', xs', z1, z2, z3⟩
end NU
