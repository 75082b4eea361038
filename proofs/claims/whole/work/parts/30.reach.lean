/-! which states are reached -/
/-- the first k transitions, one after the other, over the marks R -/
def pss (fr nx : Nat → Int32) : Nat → (Nat → Bool) → Nat → Bool
  | 0, R => R
  | k + 1, R => fun s => pss fr nx k R s || (pss fr nx k R (fr k).toNatClampNeg && decide (s = (nx k).toNatClampNeg))
def itr (fr nx : Nat → Int32) (T : Nat) : Nat → (Nat → Bool) → Nat → Bool
  | 0, R => R
  | n + 1, R => itr fr nx T n (pss fr nx T R)
theorem itr_add {fr nx : Nat → Int32} {T : Nat} : ∀ (a b : Nat) (R : Nat → Bool), itr fr nx T (a + b) R = itr fr nx T b (itr fr nx T a R) := by
  intro a
  induction a with
  | zero => intro b R; rw [Nat.zero_add]; rfl
  | succ a ih => intro b R; rw [show a + 1 + b = (a + b) + 1 by omega]; exact ih b _
theorem pss_up {fr nx : Nat → Int32} {R : Nat → Bool} {s : Nat} : ∀ (k j : Nat), pss fr nx k R s = true → pss fr nx (k + j) R s = true := by
  intro k j
  induction j with
  | zero => exact fun h => h
  | succ j ih => intro h; show (pss fr nx (k + j) R s || _) = true; rw [ih h]; rfl
def clo (fr nx : Nat → Int32) (T : Nat) (R : Nat → Bool) : Prop := ∀ t, t < T → R (fr t).toNatClampNeg = true → R (nx t).toNatClampNeg = true
theorem pss_clo {fr nx : Nat → Int32} {T : Nat} {R : Nat → Bool} (h : clo fr nx T R) : ∀ k, k ≤ T → pss fr nx k R = R := by
  intro k
  induction k with
  | zero => intro _; rfl
  | succ k ih =>
    intro hk
    funext s
    show (pss fr nx k R s || (pss fr nx k R (fr k).toNatClampNeg && decide (s = (nx k).toNatClampNeg))) = R s
    rw [ih (by omega)]
    cases h1 : R (fr k).toNatClampNeg with
    | false => simp
    | true =>
      by_cases e : s = (nx k).toNatClampNeg
      · rw [e, h k (by omega) h1]; rfl
      · rw [decide_eq_false e]; simp
theorem itr_clo {fr nx : Nat → Int32} {T : Nat} {R : Nat → Bool} (h : clo fr nx T R) : ∀ n, itr fr nx T n R = R := by
  intro n
  induction n with
  | zero => rfl
  | succ n ih => show itr fr nx T n (pss fr nx T R) = R; rw [pss_clo h T (Nat.le_refl T), ih]
def cnt (R : Nat → Bool) : Nat → Nat
  | 0 => 0
  | k + 1 => cnt R k + (if R k = true then 1 else 0)
theorem cnt_bd {R : Nat → Bool} : ∀ k, cnt R k ≤ k := by
  intro k
  induction k with
  | zero => exact Nat.le_refl 0
  | succ k ih => unfold cnt; split <;> omega
theorem cnt_le {A B : Nat → Bool} (h : ∀ i, A i = true → B i = true) : ∀ k, cnt A k ≤ cnt B k := by
  intro k
  induction k with
  | zero => exact Nat.le_refl 0
  | succ k ih =>
    unfold cnt
    by_cases q : A k = true
    · rw [if_pos q, if_pos (h k q)]; omega
    · rw [if_neg q]; split <;> omega
theorem cnt_lt {A B : Nat → Bool} (h : ∀ i, A i = true → B i = true) : ∀ k i, i < k → ¬ A i = true → B i = true → cnt A k < cnt B k := by
  intro k
  induction k with
  | zero => intro i hi; omega
  | succ k ih =>
    intro i hi h1 h2
    unfold cnt
    by_cases e : i = k
    · rw [e] at h1 h2
      rw [if_neg h1, if_pos h2]
      have := cnt_le h k
      omega
    · have := ih i (by omega) h1 h2
      by_cases q : A k = true
      · rw [if_pos q, if_pos (h k q)]; omega
      · rw [if_neg q]; split <;> omega
theorem itr_closed {fr nx : Nat → Int32} {S T : Nat} (hn : ∀ t, t < T → (nx t).toNatClampNeg < S) : ∀ (n : Nat) (R : Nat → Bool), S + 1 ≤ cnt R S + n → clo fr nx T (itr fr nx T n R) := by
  intro n
  induction n with
  | zero => intro R h; have := cnt_bd (R := R) S; omega
  | succ n ih =>
    intro R h
    by_cases hc : clo fr nx T R
    · rw [itr_clo hc]; exact hc
    · show clo fr nx T (itr fr nx T n (pss fr nx T R))
      refine ih _ ?_
      have : ∃ t, t < T ∧ R (fr t).toNatClampNeg = true ∧ ¬ R (nx t).toNatClampNeg = true := by
        refine Classical.byContradiction fun z => hc fun t ht h1 => Classical.byContradiction fun h2 => z ⟨t, ht, h1, h2⟩
      obtain ⟨t, ht, h1, h2⟩ := this
      have up : ∀ i, R i = true → pss fr nx T R i = true := fun i hi => by
        have := pss_up (fr := fr) (nx := nx) (R := R) (s := i) 0 T hi
        rwa [Nat.zero_add] at this
      have got : pss fr nx T R (nx t).toNatClampNeg = true := by
        have a1 : pss fr nx t R (fr t).toNatClampNeg = true := by
          have := pss_up (fr := fr) (nx := nx) (R := R) (s := (fr t).toNatClampNeg) 0 t h1
          rwa [Nat.zero_add] at this
        have a2 : pss fr nx (t + 1) R (nx t).toNatClampNeg = true := by
          show (pss fr nx t R (nx t).toNatClampNeg || (pss fr nx t R (fr t).toNatClampNeg && decide ((nx t).toNatClampNeg = (nx t).toNatClampNeg))) = true
          rw [a1]; simp
        have := pss_up (fr := fr) (nx := nx) (R := R) (s := (nx t).toNatClampNeg) (t + 1) (T - (t + 1)) a2
        rwa [show t + 1 + (T - (t + 1)) = T by omega] at this
      have := cnt_lt up S _ (hn t ht) h2 got
      omega
def R0 : Nat → Bool := fun s => decide (s = 0)
theorem cnt_R0 : ∀ S, 1 ≤ S → 1 ≤ cnt R0 S := by
  intro S
  induction S with
  | zero => intro h; omega
  | succ k ih =>
    intro _
    unfold cnt
    by_cases e : k = 0
    · rw [e]; decide
    · have := ih (by omega); omega
/-- the states that are reached -/
def rch (fr nx : Nat → Int32) (S T : Nat) : Nat → Bool := itr fr nx T S R0
theorem rch_clo {fr nx : Nat → Int32} {S T : Nat} (hS : 1 ≤ S) (hn : ∀ t, t < T → (nx t).toNatClampNeg < S) : clo fr nx T (rch fr nx S T) := itr_closed hn S R0 (by have := cnt_R0 S hS; omega)
theorem rch_12 {fr nx : Nat → Int32} {S T : Nat} (hS : 1 ≤ S) (h12 : S ≤ 12) (hn : ∀ t, t < T → (nx t).toNatClampNeg < S) : itr fr nx T 12 R0 = rch fr nx S T := by
  rw [show 12 = S + (12 - S) by omega, itr_add]
  exact itr_clo (rch_clo hS hn) _
theorem itr_up {fr nx : Nat → Int32} {T s : Nat} : ∀ (n : Nat) (R : Nat → Bool), R s = true → itr fr nx T n R s = true := by
  intro n
  induction n with
  | zero => exact fun R h => h
  | succ n ih =>
    intro R h
    refine ih _ ?_
    have := pss_up (fr := fr) (nx := nx) (R := R) (s := s) 0 T h
    rwa [Nat.zero_add] at this
theorem rch_0 {fr nx : Nat → Int32} {S T : Nat} : rch fr nx S T 0 = true := itr_up S R0 rfl
/-! the class's loops -/
def repC (f : Nat → Int32) (R : Nat → Bool) : Prop := ∀ s, s < 12 → (f s = 0 ∧ R s = true) ∨ (f s = -1 ∧ R s = false)
theorem reach_in {S T : Nat} {fr ev nx ac : Nat → Int32} (ok : okP S T fr ev nx ac) (rec17 : (Nat → Int32) → Int32 → Option (Nat → Int32)) (v1 : Int32) (R : Nat → Bool) :
    ∀ (n k : Nat) (f : Nat → Int32), repC f (pss fr nx k R) → k ≤ T → T - k < n → ∃ f', repC f' (pss fr nx T R) ∧ X2_putReachedIntoOneClass_L30 (nI T) fr nx rec17 n f v1 (nI k) = rec17 f' (v1 + 1) := by
  obtain ⟨hS, hT, ok⟩ := ok
  intro n
  induction n with
  | zero => intro k f _ _ h; omega
  | succ n ih =>
    intro k f hf hk hn
    show ∃ f', _ ∧ X2_putReachedIntoOneClass_B30 (nI T) fr nx rec17 (X2_putReachedIntoOneClass_L30 (nI T) fr nx rec17 n) f v1 (nI k) = _
    unfold X2_putReachedIntoOneClass_B30
    by_cases hkT : k = T
    · subst hkT
      rw [if_pos (nI_le (Nat.le_refl k) (by omega))]
      exact ⟨f, hf, rfl⟩
    · have hk' : k < T := by omega
      obtain ⟨⟨a, ha, ea⟩, -, ⟨b, hb, eb⟩, -⟩ := ok k hk'
      rw [if_neg (nI_ge hk' (by omega)), ix_ok (k := k) (n := 40) (by omega) (by decide), nI_clamp (n := k) (by omega), ea, eb, ix_ok (k := a) (n := 12) (by omega) (by decide), ix_ok (k := b) (n := 12) (by omega) (by decide), nI_clamp (n := a) (by omega), nI_clamp (n := b) (by omega), nI_1]
      have st : ∀ s, pss fr nx (k + 1) R s = (pss fr nx k R s || (pss fr nx k R a && decide (s = b))) := by
        intro s
        show (pss fr nx k R s || (pss fr nx k R (fr k).toNatClampNeg && decide (s = (nx k).toNatClampNeg))) = _
        rw [ea, eb, nI_clamp (n := a) (by omega), nI_clamp (n := b) (by omega)]
      rcases hf a (by omega) with ⟨h0, hR⟩ | ⟨h1, hR⟩
      · rw [h0, if_neg (by decide : ¬ (0 : Int32) = -1)]
        refine ih (k + 1) _ (fun s hs => ?_) (by omega) (by omega)
        rw [st s, hR]
        by_cases e : s = b
        · rw [e, upd_s]; exact Or.inl ⟨rfl, by simp⟩
        · rw [upd_n e, decide_eq_false e]
          simpa using hf s hs
      · rw [if_pos h1]
        refine ih (k + 1) _ (fun s hs => ?_) (by omega) (by omega)
        rw [st s, hR]
        simpa using hf s hs
theorem reach_out {S T fu : Nat} {fr ev nx ac : Nat → Int32} (ok : okP S T fr ev nx ac) (hfu : 50 ≤ fu) :
    ∀ (n j : Nat) (f : Nat → Int32) (R : Nat → Bool), repC f R → j ≤ S → S - j < n → ∃ f', repC f' (itr fr nx T (S - j) R) ∧ X2_putReachedIntoOneClass_L17 fu (nI S) (nI T) fr nx n f (nI j) = some f' := by
  have hS : S ≤ 12 := ok.1
  have hT : T ≤ 40 := ok.2.1
  intro n
  induction n with
  | zero => intro j f R _ _ h; omega
  | succ n ih =>
    intro j f R hf hj hn
    show ∃ f', _ ∧ X2_putReachedIntoOneClass_B17 fu (nI S) (nI T) fr nx (X2_putReachedIntoOneClass_L17 fu (nI S) (nI T) fr nx n) f (nI j) = _
    unfold X2_putReachedIntoOneClass_B17
    by_cases hjS : j = S
    · subst hjS
      rw [if_pos (nI_le (Nat.le_refl j) (by omega)), Nat.sub_self]
      exact ⟨f, hf, rfl⟩
    · rw [if_neg (nI_ge (show j < S by omega) (by omega)), show (0 : Int32) = nI 0 from rfl]
      obtain ⟨f1, h1, e1⟩ := reach_in ok (X2_putReachedIntoOneClass_L17 fu (nI S) (nI T) fr nx n) (nI j) R fu 0 f hf (by omega) (by omega)
      rw [e1, nI_1, show S - j = (S - (j + 1)) + 1 by omega]
      exact ih (j + 1) f1 _ h1 (by omega) (by omega)
theorem fill_i {an : Nat} {v : Int32} (han : an < 2 ^ 30) : ∀ (n k : Nat) (f : Nat → Int32), k ≤ an → an - k < n → ∃ f' : Nat → Int32, J7_fill_53178_L5 an v n f (nI k) (nI an) = some f' ∧ ∀ i, f' i = if k ≤ i ∧ i < an then v else f i := by
  intro n
  induction n with
  | zero => intro k f _ h; omega
  | succ n ih =>
    intro k f hk hn
    show ∃ f', J7_fill_53178_B5 an v (J7_fill_53178_L5 an v n) f (nI k) (nI an) = some f' ∧ _
    unfold J7_fill_53178_B5
    by_cases hka : k = an
    · subst hka
      rw [if_pos (nI_le (Nat.le_refl k) (by omega))]
      exact ⟨f, rfl, fun i => (if_neg (by omega)).symm⟩
    · rw [if_neg (nI_ge (show k < an by omega) (by omega)), ix_ok (show k < an by omega) (by omega), nI_clamp (by omega), nI_1]
      obtain ⟨f', h1, h2⟩ := ih (k + 1) (upd f k v) (by omega) (by omega)
      refine ⟨f', h1, fun i => ?_⟩
      rw [h2 i]
      by_cases e : i = k
      · rw [if_neg (by omega), if_pos (by omega), e, upd_s]
      · rw [upd_n e]
        by_cases q : k + 1 ≤ i ∧ i < an
        · rw [if_pos q, if_pos (by omega)]
        · rw [if_neg q, if_neg (by omega)]
theorem fill_I {fu an : Nat} {v : Int32} {f : Nat → Int32} (han : an < 2 ^ 30) (h : an < fu) : ∃ f' : Nat → Int32, J7_fill_53178 fu an f v = some f' ∧ ∀ i, i < an → f' i = v := by
  unfold J7_fill_53178
  obtain ⟨f', h1, h2⟩ := fill_i (an := an) (v := v) han fu 0 f (by omega) (by omega)
  exact ⟨f', h1, fun i hi => by rw [h2 i, if_pos ⟨by omega, hi⟩]⟩
theorem reach_c {S T fu : Nat} {fr ev nx ac cls0 : Nat → Int32} (ok : okP S T fr ev nx ac) (hfu : 50 ≤ fu) : ∃ f, X2_putReachedIntoOneClass fu (nI S) (nI T) fr nx cls0 = some f ∧ repC f (rch fr nx S T) := by
  unfold X2_putReachedIntoOneClass
  have hS : S ≤ 12 := ok.1
  obtain ⟨f0, h0, e0⟩ := fill_I (fu := fu) (an := 12) (v := -1) (f := cls0) (by decide) (by omega)
  rw [h0, ob_s, show (0 : Int32).toNatClampNeg = 0 from by decide]
  obtain ⟨f', h1, h2⟩ := reach_out ok hfu fu 0 (upd f0 0 0) R0 (fun s hs => by
    by_cases e : s = 0
    · rw [e, upd_s]; exact Or.inl ⟨rfl, rfl⟩
    · rw [upd_n e, e0 s hs]; exact Or.inr ⟨rfl, decide_eq_false e⟩) (by omega) (by omega)
  rw [Nat.sub_zero] at h1
  exact ⟨f', h2, h1⟩
/-! the reference's loops -/
def repM (f : Nat → Int32) (R : Nat → Bool) : Prop := ∀ s, s < 12 → (f s = 1 ∧ R s = true) ∨ (f s = 0 ∧ R s = false)
theorem reachm_in {S T : Nat} {fr ev nx ac : Nat → Int32} (ok : okP S T fr ev nx ac) (rec31 : (Nat → Int32) → Int32 → Option (Nat → Int32)) (v1 : Int32) (R : Nat → Bool) :
    ∀ (n k : Nat) (f : Nat → Int32), repM f (pss fr nx k R) → k ≤ T → T - k < n → ∃ f', repM f' (pss fr nx T R) ∧ X4_reach_L39 (nI T) fr nx rec31 n f v1 (nI k) = rec31 f' (v1 + 1) := by
  obtain ⟨hS, hT, ok⟩ := ok
  intro n
  induction n with
  | zero => intro k f _ _ h; omega
  | succ n ih =>
    intro k f hf hk hn
    show ∃ f', _ ∧ X4_reach_B39 (nI T) fr nx rec31 (X4_reach_L39 (nI T) fr nx rec31 n) f v1 (nI k) = _
    unfold X4_reach_B39
    by_cases hkT : k = T
    · subst hkT
      rw [if_pos (nI_le (Nat.le_refl k) (by omega))]
      exact ⟨f, hf, rfl⟩
    · have hk' : k < T := by omega
      obtain ⟨⟨a, ha, ea⟩, -, ⟨b, hb, eb⟩, -⟩ := ok k hk'
      rw [if_neg (nI_ge hk' (by omega)), ix_ok (k := k) (n := 40) (by omega) (by decide), nI_clamp (n := k) (by omega), ea, eb, ix_ok (k := a) (n := 12) (by omega) (by decide), ix_ok (k := b) (n := 12) (by omega) (by decide), nI_clamp (n := a) (by omega), nI_clamp (n := b) (by omega), nI_1]
      have st : ∀ s, pss fr nx (k + 1) R s = (pss fr nx k R s || (pss fr nx k R a && decide (s = b))) := by
        intro s
        show (pss fr nx k R s || (pss fr nx k R (fr k).toNatClampNeg && decide (s = (nx k).toNatClampNeg))) = _
        rw [ea, eb, nI_clamp (n := a) (by omega), nI_clamp (n := b) (by omega)]
      rcases hf a (by omega) with ⟨h0, hR⟩ | ⟨h1, hR⟩
      · rw [h0, if_neg (by decide : ¬ (1 : Int32) = 0)]
        refine ih (k + 1) _ (fun s hs => ?_) (by omega) (by omega)
        rw [st s, hR]
        by_cases e : s = b
        · rw [e, upd_s]; exact Or.inl ⟨rfl, by simp⟩
        · rw [upd_n e, decide_eq_false e]
          simpa using hf s hs
      · rw [if_pos h1]
        refine ih (k + 1) _ (fun s hs => ?_) (by omega) (by omega)
        rw [st s, hR]
        simpa using hf s hs
theorem reachm_out {S T fu : Nat} {fr ev nx ac : Nat → Int32} (ok : okP S T fr ev nx ac) (hfu : 50 ≤ fu) :
    ∀ (n j : Nat) (f : Nat → Int32) (R : Nat → Bool), repM f R → j ≤ 12 → 12 - j < n → ∃ f', repM f' (itr fr nx T (12 - j) R) ∧ X4_reach_L31 fu (nI T) fr nx n f (nI j) = some f' := by
  have hT : T ≤ 40 := ok.2.1
  intro n
  induction n with
  | zero => intro j f R _ _ h; omega
  | succ n ih =>
    intro j f R hf hj hn
    show ∃ f', _ ∧ X4_reach_B31 fu (nI T) fr nx (X4_reach_L31 fu (nI T) fr nx n) f (nI j) = _
    unfold X4_reach_B31
    by_cases hjS : j = 12
    · subst hjS
      rw [if_pos (by decide), Nat.sub_self]
      exact ⟨f, hf, rfl⟩
    · rw [if_neg (show ¬ (12 : Int32) ≤ nI j from nI_ge (b := 12) (by omega) (by omega)), show (0 : Int32) = nI 0 from rfl]
      obtain ⟨f1, h1, e1⟩ := reachm_in ok (X4_reach_L31 fu (nI T) fr nx n) (nI j) R fu 0 f hf (by omega) (by omega)
      rw [e1, nI_1, show 12 - j = (12 - (j + 1)) + 1 by omega]
      exact ih (j + 1) f1 _ h1 (by omega) (by omega)
theorem reachm_0 {T fu : Nat} {fr nx : Nat → Int32} :
    ∀ (n k : Nat) (f : Nat → Int32), k ≤ 12 → 12 - k < n → (∀ i, i < k → f i = if i = 0 then 1 else 0) → ∃ f' : Nat → Int32, X4_reach_L2 fu (nI T) fr nx n f (nI k) = X4_reach_L31 fu (nI T) fr nx fu f' 0 ∧ ∀ i, i < 12 → f' i = if i = 0 then 1 else 0 := by
  intro n
  induction n with
  | zero => intro k f _ h; omega
  | succ n ih =>
    intro k f hk hn h0
    show ∃ f', X4_reach_B2 fu (nI T) fr nx (X4_reach_L2 fu (nI T) fr nx n) f (nI k) = _ ∧ _
    unfold X4_reach_B2
    by_cases hk1 : k = 12
    · subst hk1
      rw [if_pos (by decide)]
      exact ⟨f, rfl, h0⟩
    · rw [if_neg (show ¬ (12 : Int32) ≤ nI k from nI_ge (b := 12) (by omega) (by omega)), ix_ok (n := 12) (by omega) (by decide), ix_ok (n := 12) (by omega) (by decide), nI_clamp (by omega), nI_1]
      by_cases e0 : k = 0
      · rw [if_pos (by rw [e0]; rfl)]
        refine ih (k + 1) _ (by omega) (by omega) (fun i hi => ?_)
        have : i = k := by omega
        rw [this, upd_s, if_pos e0]
      · rw [if_neg (nI_ne0 (by omega) (by omega))]
        refine ih (k + 1) _ (by omega) (by omega) (fun i hi => ?_)
        by_cases e : i = k
        · rw [e, upd_s, if_neg e0]
        · rw [upd_n e]; exact h0 i (by omega)
theorem reach_m {S T fu : Nat} {fr ev nx ac rc0 : Nat → Int32} (ok : okP S T fr ev nx ac) (hS1 : 1 ≤ S) (hfu : 50 ≤ fu) : ∃ f, X4_reach fu (nI T) fr nx rc0 = some f ∧ repM f (rch fr nx S T) := by
  unfold X4_reach
  have hS : S ≤ 12 := ok.1
  rw [show (0 : Int32) = nI 0 from rfl]
  obtain ⟨f0, h0, e0⟩ := reachm_0 (T := T) (fu := fu) (fr := fr) (nx := nx) fu 0 rc0 (by omega) (by omega) (fun i hi => absurd hi (by omega))
  rw [h0, show (0 : Int32) = nI 0 from rfl]
  obtain ⟨f', h1, h2⟩ := reachm_out ok hfu fu 0 f0 R0 (fun s hs => by
    rw [e0 s hs]
    by_cases e : s = 0
    · rw [if_pos e, e]; exact Or.inl ⟨rfl, rfl⟩
    · rw [if_neg e]; exact Or.inr ⟨rfl, decide_eq_false e⟩) (by omega) (by omega)
  rw [Nat.sub_zero, rch_12 hS1 hS (fun t ht => by
    obtain ⟨-, -, ⟨b, hb, eb⟩, -⟩ := ok.2.2 t ht
    rw [eb, nI_clamp (by omega)]; exact hb)] at h1
  exact ⟨f', h2, h1⟩
