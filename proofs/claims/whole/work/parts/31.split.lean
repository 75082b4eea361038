/-! classes and their numbers -/
def ldr (Q : Nat → Prop) (r : Nat → Nat → Prop) (s : Nat) : Prop := Q s ∧ ∀ q, q < s → Q q → ¬ r q s
noncomputable def lc (Q : Nat → Prop) (r : Nat → Nat → Prop) : Nat → Nat
  | 0 => 0
  | k + 1 => lc Q r k + @ite Nat (ldr Q r k) (Classical.propDecidable _) 1 0
theorem lc_y {Q : Nat → Prop} {r : Nat → Nat → Prop} {k : Nat} (h : ldr Q r k) : lc Q r (k + 1) = lc Q r k + 1 := by
  show lc Q r k + _ = _
  rw [if_pos h]
theorem lc_n {Q : Nat → Prop} {r : Nat → Nat → Prop} {k : Nat} (h : ¬ ldr Q r k) : lc Q r (k + 1) = lc Q r k := by
  show lc Q r k + _ = _
  rw [if_neg h]
  rfl
theorem lc_bd {Q : Nat → Prop} {r : Nat → Nat → Prop} : ∀ k, lc Q r k ≤ k := by
  intro k
  induction k with
  | zero => exact Nat.le_refl 0
  | succ k ih =>
    by_cases h : ldr Q r k
    · rw [lc_y h]; omega
    · rw [lc_n h]; omega
theorem lc_mono {Q : Nat → Prop} {r : Nat → Nat → Prop} : ∀ (j k : Nat), lc Q r k ≤ lc Q r (k + j) := by
  intro j k
  induction j with
  | zero => exact Nat.le_refl _
  | succ j ih =>
    by_cases h : ldr Q r (k + j)
    · have : lc Q r (k + (j + 1)) = lc Q r (k + j) + 1 := lc_y h
      omega
    · have : lc Q r (k + (j + 1)) = lc Q r (k + j) := lc_n h
      omega
theorem lc_lt {Q : Nat → Prop} {r : Nat → Nat → Prop} {a b : Nat} (ha : ldr Q r a) (h : a < b) : lc Q r a < lc Q r b := by
  have h1 := lc_mono (Q := Q) (r := r) (b - (a + 1)) (a + 1)
  rw [show a + 1 + (b - (a + 1)) = b by omega, lc_y ha] at h1
  omega
/-- an equivalence on the states below S with Q -/
def eqv (S : Nat) (Q : Nat → Prop) (r : Nat → Nat → Prop) : Prop := (∀ a, a < S → Q a → r a a) ∧ (∀ a b, a < S → b < S → Q a → Q b → r a b → r b a) ∧ (∀ a b c, a < S → b < S → c < S → Q a → Q b → Q c → r a b → r b c → r a c)
def can (S : Nat) (Q : Nat → Prop) (r : Nat → Nat → Prop) (f : Nat → Int32) : Prop := ∀ s, s < S → (¬ Q s → f s = -1) ∧ (ldr Q r s → f s = nI (lc Q r s)) ∧ (∀ q, q < s → Q q → Q s → r q s → f s = f q)
theorem has_ldr {S : Nat} {Q : Nat → Prop} {r : Nat → Nat → Prop} (he : eqv S Q r) {a : Nat} (ha : a < S) (qa : Q a) : ∃ q, q ≤ a ∧ ldr Q r q ∧ r q a := by
  obtain ⟨k, ⟨h1, h2, h3⟩, h4⟩ := pk_least (fun q => q ≤ a ∧ Q q ∧ r q a) ⟨a, Nat.le_refl a, qa, he.1 a ha qa⟩
  refine ⟨k, h1, ⟨h2, fun q hq qq hr => h4 q hq ⟨by omega, qq, ?_⟩⟩, h3⟩
  exact he.2.2 q k a (by omega) (by omega) ha qq h2 qa hr h3
theorem can_ldr {S : Nat} {Q : Nat → Prop} {r : Nat → Nat → Prop} {f : Nat → Int32} (he : eqv S Q r) (hc : can S Q r f) {a : Nat} (ha : a < S) (qa : Q a) : ∃ q, q ≤ a ∧ ldr Q r q ∧ r q a ∧ f a = nI (lc Q r q) := by
  obtain ⟨q, h1, h2, h3⟩ := has_ldr he ha qa
  refine ⟨q, h1, h2, h3, ?_⟩
  by_cases e : q = a
  · rw [e] at h2 ⊢; exact (hc a ha).2.1 h2
  · rw [(hc a ha).2.2 q (by omega) h2.1 qa h3]
    exact (hc q (by omega)).2.1 h2
theorem can_lt {S : Nat} {Q : Nat → Prop} {r : Nat → Nat → Prop} {f : Nat → Int32} (he : eqv S Q r) (hc : can S Q r f) {a : Nat} (ha : a < S) (qa : Q a) : ∃ c, c < lc Q r S ∧ f a = nI c := by
  obtain ⟨q, h1, h2, -, h4⟩ := can_ldr he hc ha qa
  exact ⟨_, lc_lt h2 (by omega), h4⟩
theorem ldr_eq {S : Nat} {Q : Nat → Prop} {r : Nat → Nat → Prop} (he : eqv S Q r) {a b : Nat} (ha : ldr Q r a) (hb : ldr Q r b) (haS : a < S) (hbS : b < S) (h : r a b) : a = b := by
  rcases Nat.lt_trichotomy a b with q | q | q
  · exact absurd h (hb.2 a q ha.1)
  · exact q
  · exact absurd (he.2.1 a b haS hbS ha.1 hb.1 h) (ha.2 b q hb.1)
theorem can_iff {S : Nat} (hS : S ≤ 12) {Q : Nat → Prop} {r : Nat → Nat → Prop} {f : Nat → Int32} (he : eqv S Q r) (hc : can S Q r f) {a b : Nat} (ha : a < S) (hb : b < S) (qa : Q a) (qb : Q b) : f a = f b ↔ r a b := by
  obtain ⟨p, p1, p2, p3, p4⟩ := can_ldr he hc ha qa
  obtain ⟨q, q1, q2, q3, q4⟩ := can_ldr he hc hb qb
  constructor
  · intro h
    rw [p4, q4] at h
    have h1 := lc_bd (Q := Q) (r := r) p
    have h2 := lc_bd (Q := Q) (r := r) q
    have h3 := (nI_eq (show lc Q r p < 2 ^ 31 by omega) (by omega)).mp h
    have : p = q := by
      rcases Nat.lt_trichotomy p q with z | z | z
      · have := lc_lt p2 z; omega
      · exact z
      · have := lc_lt q2 z; omega
    rw [this] at p3
    exact he.2.2 a q b ha (by omega) hb qa q2.1 qb (he.2.1 q a (by omega) ha q2.1 qa p3) q3
  · intro h
    have : r p q := by
      have h1 := he.2.2 p a b (by omega) ha hb p2.1 qa qb p3 h
      exact he.2.2 p b q (by omega) hb (by omega) p2.1 qb q2.1 h1 (he.2.1 q b (by omega) hb q2.1 qb q3)
    rw [p4, q4, ldr_eq he p2 q2 (by omega) (by omega) this]
theorem ldr_congr {S : Nat} {Q : Nat → Prop} {r r' : Nat → Nat → Prop} (h : ∀ a b, a < S → b < S → Q a → Q b → (r a b ↔ r' a b)) {s : Nat} (hs : s < S) : ldr Q r s ↔ ldr Q r' s := by
  constructor
  · intro ⟨a, b⟩; exact ⟨a, fun q hq qq z => b q hq qq ((h q s (by omega) hs qq a).mpr z)⟩
  · intro ⟨a, b⟩; exact ⟨a, fun q hq qq z => b q hq qq ((h q s (by omega) hs qq a).mp z)⟩
theorem lc_congr {S : Nat} {Q : Nat → Prop} {r r' : Nat → Nat → Prop} (h : ∀ a b, a < S → b < S → Q a → Q b → (r a b ↔ r' a b)) : ∀ k, k ≤ S → lc Q r k = lc Q r' k := by
  intro k
  induction k with
  | zero => intro _; rfl
  | succ k ih =>
    intro hk
    by_cases q : ldr Q r k
    · rw [lc_y q, lc_y ((ldr_congr h (by omega)).mp q), ih (by omega)]
    · rw [lc_n q, lc_n (fun z => q ((ldr_congr h (by omega)).mpr z)), ih (by omega)]
theorem can_congr {S : Nat} {Q : Nat → Prop} {r r' : Nat → Nat → Prop} {f : Nat → Int32} (h : ∀ a b, a < S → b < S → Q a → Q b → (r a b ↔ r' a b)) (hc : can S Q r f) : can S Q r' f := by
  intro s hs
  obtain ⟨a, b, c⟩ := hc s hs
  exact ⟨a, fun l => by rw [b ((ldr_congr h hs).mpr l), lc_congr h s (by omega)], fun q hq qq qs z => c q hq qq qs ((h q s (by omega) hs qq qs).mpr z)⟩
theorem can_uniq {S : Nat} {Q : Nat → Prop} {r : Nat → Nat → Prop} {f g : Nat → Int32} (he : eqv S Q r) (h1 : can S Q r f) (h2 : can S Q r g) : ∀ s, s < S → f s = g s := by
  intro s hs
  by_cases q : Q s
  · obtain ⟨p, p1, p2, p3, p4⟩ := can_ldr he h1 hs q
    rw [p4]
    by_cases e : p = s
    · rw [e] at p2 ⊢; exact ((h2 s hs).2.1 p2).symm
    · rw [(h2 s hs).2.2 p (by omega) p2.1 q p3, (h2 p (by omega)).2.1 p2]
  · rw [(h1 s hs).1 q, (h2 s hs).1 q]
/-- finer, and as many: the same -/
theorem lc_same {S : Nat} {Q : Nat → Prop} {r r' : Nat → Nat → Prop} (h : ∀ a b, a < S → b < S → Q a → Q b → r' a b → r a b) : ∀ k, k ≤ S → lc Q r k ≤ lc Q r' k ∧ (lc Q r k = lc Q r' k → ∀ s, s < k → (ldr Q r s ↔ ldr Q r' s)) := by
  intro k
  induction k with
  | zero => intro _; exact ⟨Nat.le_refl 0, fun _ s hs => absurd hs (by omega)⟩
  | succ k ih =>
    intro hk
    obtain ⟨i1, i2⟩ := ih (by omega)
    have sub : ldr Q r k → ldr Q r' k := fun ⟨a, b⟩ => ⟨a, fun q hq qq z => b q hq qq (h q k (by omega) (by omega) qq a z)⟩
    by_cases q : ldr Q r k
    · rw [lc_y q, lc_y (sub q)]
      refine ⟨by omega, fun e s hs => ?_⟩
      by_cases es : s = k
      · rw [es]; exact ⟨sub, fun _ => q⟩
      · exact i2 (by omega) s (by omega)
    · rw [lc_n q]
      by_cases q' : ldr Q r' k
      · rw [lc_y q']
        exact ⟨by omega, fun e => absurd e (by omega)⟩
      · rw [lc_n q']
        refine ⟨i1, fun e s hs => ?_⟩
        by_cases es : s = k
        · rw [es]; exact ⟨fun z => absurd z q, fun z => absurd z q'⟩
        · exact i2 e s (by omega)
theorem same_count {S : Nat} {Q : Nat → Prop} {r r' : Nat → Nat → Prop} (he : eqv S Q r) (he' : eqv S Q r') (h : ∀ a b, a < S → b < S → Q a → Q b → r' a b → r a b) (hc : lc Q r S = lc Q r' S) : ∀ a b, a < S → b < S → Q a → Q b → (r a b ↔ r' a b) := by
  have hl := (lc_same h S (Nat.le_refl S)).2 hc
  intro a b ha hb qa qb
  refine ⟨fun z => ?_, h a b ha hb qa qb⟩
  obtain ⟨p, p1, p2, p3⟩ := has_ldr he' ha qa
  obtain ⟨q, q1, q2, q3⟩ := has_ldr he' hb qb
  have p4 := (hl p (by omega)).mpr p2
  have q4 := (hl q (by omega)).mpr q2
  have z1 : r p q := by
    have w1 := he.2.2 p a b (by omega) ha hb p2.1 qa qb (h p a (by omega) ha p2.1 qa p3) z
    exact he.2.2 p b q (by omega) hb (by omega) p2.1 qb q2.1 w1 (he.2.1 q b (by omega) hb q2.1 qb (h q b (by omega) hb q2.1 qb q3))
  have e := ldr_eq he p4 q4 (by omega) (by omega) z1
  rw [e] at p3
  exact he'.2.2 a q b ha (by omega) hb qa q2.1 qb (he'.2.1 q a (by omega) ha q2.1 qa p3) q3
/-! the class splits -/
def spl (fr ev nx vr rl nm ac kd aa bb : Nat → Int32) (T : Nat) (cls : Nat → Int32) (a b : Nat) : Prop := cls a = cls b ∧ rws fr ev nx vr rl nm ac kd aa bb T (fun a b => cls a = cls b) a b
theorem spl_eqv {S T : Nat} {Q : Nat → Prop} {fr ev nx vr rl nm ac kd aa bb cls : Nat → Int32} : eqv S Q (spl fr ev nx vr rl nm ac kd aa bb T cls) := by
  refine ⟨fun a _ _ => ⟨rfl, fun e _ => F2_rf (fun i _ => ⟨lab_rf, rfl⟩)⟩, fun a b _ _ _ _ h => ⟨h.1.symm, fun e he => F2_sy (fun i j q => ⟨lab_sy q.1, q.2.symm⟩) (h.2 e he)⟩, fun a b c _ _ _ _ _ _ h1 h2 => ⟨h1.1.trans h2.1, fun e he => F2_tr (fun i j k p q => ⟨lab_tr p.1 q.1, p.2.trans q.2⟩) (h1.2 e he) (h2.2 e he)⟩⟩
theorem split_loop {S T fu : Nat} {fr ev nx vr rl nm ac kd aa bb cls : Nat → Int32} (ok : okP S T fr ev nx ac) (hfu : 50 ≤ fu) {Q : Nat → Prop} (hQ : ∀ s, s < S → (Q s ↔ ¬ cls s = -1)) :
    ∀ (n j : Nat) (f : Nat → Int32), can j Q (spl fr ev nx vr rl nm ac kd aa bb T cls) f → j ≤ S → S - j < n → ∃ f', X2_splitOnce_L4 fu (nI S) (nI T) fr ev nx vr rl nm ac kd aa bb cls n f (nI (lc Q (spl fr ev nx vr rl nm ac kd aa bb T cls) j)) (nI j) = X2_splitOnce_B78 (nI S) cls f' (nI (lc Q (spl fr ev nx vr rl nm ac kd aa bb T cls) S)) ∧ can S Q (spl fr ev nx vr rl nm ac kd aa bb T cls) f' := by
  have hS : S ≤ 12 := ok.1
  intro n
  induction n with
  | zero => intro j f _ _ h; omega
  | succ n ih =>
    intro j f hf hj hn
    show ∃ f', X2_splitOnce_B4 fu (nI S) (nI T) fr ev nx vr rl nm ac kd aa bb cls (X2_splitOnce_L4 fu (nI S) (nI T) fr ev nx vr rl nm ac kd aa bb cls n) f (nI (lc Q (spl fr ev nx vr rl nm ac kd aa bb T cls) j)) (nI j) = _ ∧ _
    unfold X2_splitOnce_B4
    by_cases hjS : j = S
    · subst hjS
      rw [if_pos (nI_le (Nat.le_refl j) (by omega))]
      exact ⟨f, rfl, hf⟩
    · have hj' : j < S := by omega
      rw [if_neg (nI_ge hj' (by omega)), ix_ok (k := j) (n := 12) (by omega) (by decide), nI_clamp (n := j) (by omega)]
      -- the new row: as before below j
      have keep : ∀ x, (¬ Q j → x = -1) → (ldr Q (spl fr ev nx vr rl nm ac kd aa bb T cls) j → x = nI (lc Q (spl fr ev nx vr rl nm ac kd aa bb T cls) j)) → (∀ q, q < j → Q q → Q j → spl fr ev nx vr rl nm ac kd aa bb T cls q j → x = f q) → ∀ g : Nat → Int32, (∀ s, ¬ s = j → g s = f s) → g j = x → can (j + 1) Q (spl fr ev nx vr rl nm ac kd aa bb T cls) g := by
        intro x h1 h2 h3 g g1 g2 s hs
        by_cases e : s = j
        · subst e
          rw [g2]
          exact ⟨h1, h2, fun q hq a b c => by rw [g1 q (by omega)]; exact h3 q hq a b c⟩
        · obtain ⟨a, b, c⟩ := hf s (by omega)
          rw [g1 s e]
          exact ⟨a, b, fun q hq x y z => by rw [g1 q (by omega)]; exact c q hq x y z⟩
      by_cases hc : cls j = -1
      · have nq : ¬ Q j := fun z => (hQ j hj').mp z hc
        rw [if_pos hc, nI_1]
        obtain ⟨f', z1, z2⟩ := ih (j + 1) (upd f j (-1)) (keep (-1) (fun _ => rfl) (fun l => absurd l.1 nq) (fun q _ _ b => absurd b nq) _ (fun s e => upd_n e) upd_s) (by omega) (by omega)
        rw [lc_n (fun l => nq l.1)] at z1
        exact ⟨f', z1, z2⟩
      · have qj : Q j := (hQ j hj').mpr hc
        rw [if_neg hc]
        unfold X2_earlierTwin
        rw [show (0 : Int32) = nI 0 from rfl]
        obtain ⟨r, hr, hF⟩ := twin_c (s := j) (vr := vr) (rl := rl) (nm := nm) (kd := kd) (aa := aa) (bb := bb) (cls := cls) ok hfu (by omega) fu 0 (by omega) (by omega)
        rw [hr, ob_s]
        unfold X2_splitOnce_B58
        rcases hF with ⟨e, no⟩ | ⟨q, -, hq, e, hp, -⟩
        · rw [if_pos e, ix_ok (k := j) (n := 12) (by omega) (by decide), if_pos e, nI_clamp (n := j) (by omega), nI_1, nI_1]
          have l : ldr Q (spl fr ev nx vr rl nm ac kd aa bb T cls) j := ⟨qj, fun q hq _ z => no q (by omega) hq z⟩
          obtain ⟨f', z1, z2⟩ := ih (j + 1) (upd (upd f j (-1)) j (nI (lc Q (spl fr ev nx vr rl nm ac kd aa bb T cls) j))) (keep (nI (lc Q (spl fr ev nx vr rl nm ac kd aa bb T cls) j)) (fun z => absurd qj z) (fun _ => rfl) (fun q hq _ _ z => absurd z (no q (by omega) hq)) _ (fun s e => by rw [upd_n e, upd_n e]) upd_s) (by omega) (by omega)
          rw [lc_y l] at z1
          exact ⟨f', z1, z2⟩
        · have hm : ¬ nI q = (-1 : Int32) := nI_m1 (by omega)
          have qq : Q q := (hQ q (by omega)).mpr (by rw [hp.1]; exact hc)
          rw [e, if_neg hm, ix_ok (k := q) (n := 12) (by omega) (by decide), ix_ok (k := j) (n := 12) (by omega) (by decide), if_neg hm, nI_clamp (n := j) (by omega), nI_clamp (n := q) (by omega), nI_1, upd_n (show ¬ q = j by omega), Int32.add_zero]
          have nl : ¬ ldr Q (spl fr ev nx vr rl nm ac kd aa bb T cls) j := fun l => l.2 q hq qq hp
          have E := spl_eqv (S := S) (T := T) (Q := Q) (fr := fr) (ev := ev) (nx := nx) (vr := vr) (rl := rl) (nm := nm) (ac := ac) (kd := kd) (aa := aa) (bb := bb) (cls := cls)
          obtain ⟨f', z1, z2⟩ := ih (j + 1) (upd (upd f j (-1)) j (f q)) (keep (f q) (fun z => absurd qj z) (fun l => absurd l nl) (fun p hpj qp _ z => by
            have w : spl fr ev nx vr rl nm ac kd aa bb T cls p q := E.2.2 p j q (by omega) hj' (by omega) qp qj qq z (E.2.1 q j (by omega) hj' qq qj hp)
            rcases Nat.lt_trichotomy p q with y | y | y
            · exact (hf q (by omega)).2.2 p y qp qq w
            · rw [y]
            · exact ((hf p (by omega)).2.2 q y qq qp (E.2.1 p q (by omega) (by omega) qp qq w)).symm) _ (fun s e => by rw [upd_n e, upd_n e]) upd_s) (by omega) (by omega)
          rw [lc_n nl] at z1
          exact ⟨f', z1, z2⟩
theorem split_c {S T fu : Nat} {fr ev nx vr rl nm ac kd aa bb cls fin : Nat → Int32} (ok : okP S T fr ev nx ac) (hfu : 50 ≤ fu) {Q : Nat → Prop} (hQ : ∀ s, s < S → (Q s ↔ ¬ cls s = -1)) : ∃ cls' fin' : Nat → Int32, X2_splitOnce fu (nI S) (nI T) fr ev nx vr rl nm ac kd aa bb cls fin = some (nI (lc Q (spl fr ev nx vr rl nm ac kd aa bb T cls) S), cls', fin') ∧ can S Q (spl fr ev nx vr rl nm ac kd aa bb T cls) cls' := by
  have hS : S ≤ 12 := ok.1
  unfold X2_splitOnce
  obtain ⟨f', z1, z2⟩ := split_loop (vr := vr) (rl := rl) (nm := nm) (kd := kd) (aa := aa) (bb := bb) ok hfu hQ fu 0 fin (fun s hs => absurd hs (by omega)) (by omega) (by omega)
  rw [show (0 : Int32) = nI 0 from rfl]
  rw [show lc Q (spl fr ev nx vr rl nm ac kd aa bb T cls) 0 = 0 from rfl] at z1
  rw [z1]
  unfold X2_splitOnce_B78 cp
  rw [if_neg (by rw [nI_clamp (by omega)]; exact fun h => h.elim (nI_pos (by omega)) (fun h => absurd h (by omega)))]
  refine ⟨_, _, rfl, fun s hs => ?_⟩
  have e : ∀ k, k < S → va_cpy f' cls (0 : Int32).toNatClampNeg (0 : Int32).toNatClampNeg (nI S).toNatClampNeg k = f' k := by
    intro k hk
    rw [show (0 : Int32).toNatClampNeg = 0 from by decide, nI_clamp (by omega)]
    exact sb_cpy0 hk
  rw [e s hs]
  obtain ⟨a, b, c⟩ := z2 s hs
  exact ⟨a, b, fun q hq x y z => by rw [e q (by omega)]; exact c q hq x y z⟩
