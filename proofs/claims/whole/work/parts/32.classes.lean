/-! the class's classes at the end -/
def ceq (cls : Nat → Int32) (a b : Nat) : Prop := cls a = cls b
theorem ceq_eqv {S : Nat} {Q : Nat → Prop} {cls : Nat → Int32} : eqv S Q (ceq cls) := ⟨fun _ _ _ => rfl, fun _ _ _ _ _ _ h => Eq.symm h, fun _ _ _ _ _ _ _ _ _ h h' => Eq.trans h h'⟩
/-- the classes at the end: numbered in order, with the same rows, and the greatest -/
def fnl (S T : Nat) (fr ev nx : Nat → Int32) (lb : Nat → Nat → Prop) (Q : Nat → Prop) (cls : Nat → Int32) : Prop := can S Q (ceq cls) cls ∧ bis S T fr ev nx lb Q (ceq cls) ∧ ∀ ρ : Nat → Nat → Prop, bis S T fr ev nx lb Q ρ → ∀ a b, a < S → b < S → Q a → Q b → ρ a b → cls a = cls b
theorem nxt_lt {S T : Nat} {fr ev nx ac : Nat → Int32} (ok : okP S T fr ev nx ac) {t : Nat} (ht : t < T) : (nx t).toNatClampNeg < S := by
  have hS := ok.1
  obtain ⟨-, -, ⟨b, hb, eb⟩, -⟩ := ok.2.2 t ht
  rw [eb, nI_clamp (by omega)]; exact hb
theorem rg_to {S T : Nat} {fr ev nx ac : Nat → Int32} {lb : Nat → Nat → Prop} {Q : Nat → Prop} (ok : okP S T fr ev nx ac) (hQn : ∀ t, t < T → Q (fr t).toNatClampNeg → Q (nx t).toNatClampNeg) {r r' : Nat → Nat → Prop} (h : ∀ a b, a < S → b < S → Q a → Q b → r a b → r' a b) {a b : Nat} (ha : a < S) (hb : b < S) (qa : Q a) (qb : Q b) (q : rg fr ev nx lb T r a b) : rg fr ev nx lb T r' a b := by
  have hS := ok.1
  refine rg_congr (fun t _ => ⟨rfl, rfl⟩) (fun t _ => rfl) (fun i j _ _ z => z) (fun i j hi hj fi fj z => ?_) q
  have q1 := hQn i hi (by rw [fi, nI_clamp (by omega)]; exact qa)
  have q2 := hQn j hj (by rw [fj, nI_clamp (by omega)]; exact qb)
  exact h _ _ (nxt_lt ok hi) (nxt_lt ok hj) q1 q2 z
theorem make_loop {S T fu : Nat} {fr ev nx vr rl nm ac kd aa bb : Nat → Int32} (ok : okP S T fr ev nx ac) (hfu : 50 ≤ fu) {Q : Nat → Prop} (hQn : ∀ t, t < T → Q (fr t).toNatClampNeg → Q (nx t).toNatClampNeg) (sz tk : Int32) (ub of ow : Nat → Int32) :
    ∀ (n k : Nat) (cls fin : Nat → Int32) (v1 : Int32), (∀ s, s < S → (Q s ↔ ¬ cls s = -1)) → can S Q (ceq cls) cls → (∀ ρ : Nat → Nat → Prop, bis S T fr ev nx (lab vr rl nm ac kd aa bb) Q ρ → ∀ a b, a < S → b < S → Q a → Q b → ρ a b → cls a = cls b) → k ≤ 12 → k + 1 ≤ lc Q (ceq cls) S → ¬ nI (lc Q (ceq cls) S) = v1 → 14 - k < n → ∃ cls' fin' : Nat → Int32, X2_make_L13 fu (nI S) (nI T) fr ev nx vr rl nm ac kd aa bb sz tk ub of ow n (nI (lc Q (ceq cls) S)) cls fin v1 (nI k) = X2_make_B46 fu (nI T) fr ev sz tk ub of ow (nI (lc Q (ceq cls') S)) cls' fin' ∧ (∀ s, s < S → (Q s ↔ ¬ cls' s = -1)) ∧ fnl S T fr ev nx (lab vr rl nm ac kd aa bb) Q cls' := by
  have hS : S ≤ 12 := ok.1
  intro n
  induction n with
  | zero => intro k _ _ _ _ _ _ _ _ _ h; omega
  | succ n ih =>
    intro k cls fin v1 hQ hcan hmax hk hlc hv hn
    have bd := lc_bd (Q := Q) (r := ceq cls) S
    show ∃ cls' fin', X2_make_B13 fu (nI S) (nI T) fr ev nx vr rl nm ac kd aa bb sz tk ub of ow (X2_make_L13 fu (nI S) (nI T) fr ev nx vr rl nm ac kd aa bb sz tk ub of ow n) (nI (lc Q (ceq cls) S)) cls fin v1 (nI k) = _ ∧ _
    unfold X2_make_B13
    rw [if_neg (show ¬ (12 : Int32) ≤ nI k from nI_ge (b := 12) (by omega) (by omega)), if_neg hv]
    obtain ⟨c1, f1, e1, can1⟩ := split_c (vr := vr) (rl := rl) (nm := nm) (kd := kd) (aa := aa) (bb := bb) (cls := cls) (fin := fin) ok hfu hQ
    rw [e1, ob_s, nI_1]
    dsimp only
    have E := spl_eqv (S := S) (T := T) (Q := Q) (fr := fr) (ev := ev) (nx := nx) (vr := vr) (rl := rl) (nm := nm) (ac := ac) (kd := kd) (aa := aa) (bb := bb) (cls := cls)
    have iff1 : ∀ a b, a < S → b < S → Q a → Q b → (spl fr ev nx vr rl nm ac kd aa bb T cls a b ↔ ceq c1 a b) := fun a b ha hb qa qb => (can_iff hS E can1 ha hb qa qb).symm
    have can2 := can_congr iff1 can1
    rw [lc_congr iff1 S (Nat.le_refl S)]
    have sub : ∀ a b, a < S → b < S → Q a → Q b → ceq c1 a b → ceq cls a b := fun a b ha hb qa qb h => ((iff1 a b ha hb qa qb).mpr h).1
    have hQ1 : ∀ s, s < S → (Q s ↔ ¬ c1 s = -1) := by
      intro s hs
      constructor
      · intro q
        obtain ⟨c, hc, e⟩ := can_lt ceq_eqv can2 hs q
        have := lc_bd (Q := Q) (r := ceq c1) S
        rw [e]; exact nI_m1 (by omega)
      · intro h
        exact Classical.byContradiction fun q => h ((can2 s hs).1 q)
    have hmax1 : ∀ ρ : Nat → Nat → Prop, bis S T fr ev nx (lab vr rl nm ac kd aa bb) Q ρ → ∀ a b, a < S → b < S → Q a → Q b → ρ a b → c1 a = c1 b := by
      intro ρ hρ a b ha hb qa qb h
      exact (iff1 a b ha hb qa qb).mp ⟨hmax ρ hρ a b ha hb qa qb h, rg_to ok hQn (fun x y hx hy qx qy z => hmax ρ hρ x y hx hy qx qy z) ha hb qa qb (hρ a b ha hb qa qb h)⟩
    have le := (lc_same (r := ceq cls) (r' := ceq c1) sub S (Nat.le_refl S)).1
    have bd1 := lc_bd (Q := Q) (r := ceq c1) S
    by_cases same : lc Q (ceq cls) S = lc Q (ceq c1) S
    · cases n with
      | zero => omega
      | succ n =>
        show ∃ cls' fin', X2_make_B13 fu (nI S) (nI T) fr ev nx vr rl nm ac kd aa bb sz tk ub of ow (X2_make_L13 fu (nI S) (nI T) fr ev nx vr rl nm ac kd aa bb sz tk ub of ow n) (nI (lc Q (ceq c1) S)) c1 f1 (nI (lc Q (ceq cls) S)) (nI (k + 1)) = _ ∧ _
        unfold X2_make_B13
        have h2 : nI (lc Q (ceq c1) S) = nI (lc Q (ceq cls) S) := by rw [same]
        have st := same_count ceq_eqv ceq_eqv sub same
        refine ⟨c1, f1, ?_, hQ1, can2, fun a b ha hb qa qb h => ?_, hmax1⟩
        · by_cases q : (12 : Int32) ≤ nI (k + 1)
          · rw [if_pos q]
          · rw [if_neg q, if_pos h2]
        · exact rg_to ok hQn (fun x y hx hy qx qy z => (st x y hx hy qx qy).mp z) ha hb qa qb ((iff1 a b ha hb qa qb).mpr h).2
    · exact ih (k + 1) c1 f1 _ hQ1 can2 hmax1 (by omega) (by omega) (fun z => same ((nI_eq (by omega) (by omega)).mp z).symm) (by omega)
