/-! rows of transitions -/
/-- the transitions of a state and an event among j .. j+k-1 -/
def trf (fr ev : Nat → Int32) (s e : Nat) : Nat → Nat → List Nat
  | 0, _ => []
  | k + 1, j => if fr j = nI s ∧ ev j = nI e then j :: trf fr ev s e k (j + 1) else trf fr ev s e k (j + 1)
def trl (fr ev : Nat → Int32) (T s e j : Nat) : List Nat := trf fr ev s e (T - j) j
def hd (l : List Nat) : Int32 := match l with
  | [] => -1
  | t :: _ => nI t
theorem trl_end {fr ev : Nat → Int32} {T s e : Nat} : trl fr ev T s e T = [] := by unfold trl; rw [Nat.sub_self]; rfl
theorem trl_step {fr ev : Nat → Int32} {T s e j : Nat} (h : j < T) : trl fr ev T s e j = if fr j = nI s ∧ ev j = nI e then j :: trl fr ev T s e (j + 1) else trl fr ev T s e (j + 1) := by
  unfold trl
  rw [show T - j = (T - (j + 1)) + 1 by omega]
  rfl
theorem trl_nil {fr ev : Nat → Int32} {T s e : Nat} : ∀ (k j : Nat), T - j ≤ k → (∀ t, j ≤ t → t < T → ¬ (fr t = nI s ∧ ev t = nI e)) → trl fr ev T s e j = [] := by
  intro k
  induction k with
  | zero =>
    intro j h _
    unfold trl
    rw [show T - j = 0 by omega]
    rfl
  | succ k ih =>
    intro j h q
    by_cases hj : j < T
    · rw [trl_step hj, if_neg (q j (Nat.le_refl j) hj)]
      exact ih (j + 1) (by omega) (fun t a b => q t (by omega) b)
    · unfold trl
      rw [show T - j = 0 by omega]
      rfl
theorem trl_cons {fr ev : Nat → Int32} {T s e t : Nat} (ht : t < T) (p : fr t = nI s ∧ ev t = nI e) : ∀ (k j : Nat), t - j ≤ k → j ≤ t → (∀ i, j ≤ i → i < t → ¬ (fr i = nI s ∧ ev i = nI e)) → trl fr ev T s e j = t :: trl fr ev T s e (t + 1) := by
  intro k
  induction k with
  | zero =>
    intro j h1 h2 _
    have : j = t := by omega
    subst this
    rw [trl_step ht, if_pos p]
  | succ k ih =>
    intro j h1 h2 q
    by_cases hj : j = t
    · subst hj
      rw [trl_step ht, if_pos p]
    · rw [trl_step (by omega), if_neg (q j (Nat.le_refl j) (by omega))]
      exact ih (j + 1) (by omega) (by omega) (fun i a b => q i (by omega) b)
theorem hd_isF {fr ev : Nat → Int32} {T s e j : Nat} {r : Int32} (h : isF (fun t => fr t = nI s ∧ ev t = nI e) T j r) : r = hd (trl fr ev T s e j) := by
  rcases h with ⟨e1, q⟩ | ⟨t, a, b, c, d, q⟩
  · rw [trl_nil (T - j) j (Nat.le_refl _) q]; exact e1
  · rw [trl_cons b d (t - j) j (Nat.le_refl _) a q]; exact c
theorem trl_tail {fr ev : Nat → Int32} {T s e : Nat} : ∀ (k j t : Nat) (l : List Nat), T - j ≤ k → trl fr ev T s e j = t :: l → j ≤ t ∧ t < T ∧ fr t = nI s ∧ ev t = nI e ∧ l = trl fr ev T s e (t + 1) := by
  intro k
  induction k with
  | zero =>
    intro j t l h q
    unfold trl at q
    rw [show T - j = 0 by omega] at q
    cases q
  | succ k ih =>
    intro j t l h q
    by_cases hj : j < T
    · rw [trl_step hj] at q
      by_cases p : fr j = nI s ∧ ev j = nI e
      · rw [if_pos p] at q
        obtain ⟨rfl, rfl⟩ := List.cons.inj q
        exact ⟨Nat.le_refl _, hj, p.1, p.2, rfl⟩
      · rw [if_neg p] at q
        obtain ⟨a, b, c⟩ := ih (j + 1) t l (by omega) q
        exact ⟨by omega, b, c⟩
    · unfold trl at q
      rw [show T - j = 0 by omega] at q
      cases q
theorem trl_len {fr ev : Nat → Int32} {T s e : Nat} : ∀ (k j : Nat), T - j ≤ k → (trl fr ev T s e j).length ≤ T - j := by
  intro k
  induction k with
  | zero =>
    intro j h
    unfold trl
    rw [show T - j = 0 by omega]
    exact Nat.le_refl 0
  | succ k ih =>
    intro j h
    by_cases hj : j < T
    · rw [trl_step hj]
      have := ih (j + 1) (by omega)
      by_cases p : fr j = nI s ∧ ev j = nI e
      · rw [if_pos p, List.length_cons]; omega
      · rw [if_neg p]; omega
    · unfold trl
      rw [show T - j = 0 by omega]
      exact Nat.zero_le _
theorem hd_m1 {l : List Nat} (h : ∀ t, t ∈ l → t < 2 ^ 31) : hd l = -1 ↔ l = [] := by
  cases l with
  | nil => exact ⟨fun _ => rfl, fun _ => rfl⟩
  | cons t l => exact ⟨fun q => absurd q (nI_m1 (h t List.mem_cons_self)), fun q => by cases q⟩
/-- two lists, place by place -/
def F2 (P : Nat → Nat → Prop) : List Nat → List Nat → Prop
  | [], [] => True
  | a :: l, b :: m => P a b ∧ F2 P l m
  | _, _ => False
theorem F2_mono {P Q : Nat → Nat → Prop} : ∀ {l m : List Nat}, (∀ a b, a ∈ l → b ∈ m → P a b → Q a b) → F2 P l m → F2 Q l m := by
  intro l
  induction l with
  | nil => intro m h q; cases m with
    | nil => trivial
    | cons b m => exact q.elim
  | cons a l ih => intro m h q; cases m with
    | nil => exact q.elim
    | cons b m => exact ⟨h a b List.mem_cons_self List.mem_cons_self q.1, ih (fun x y hx hy => h x y (List.mem_cons_of_mem _ hx) (List.mem_cons_of_mem _ hy)) q.2⟩
theorem F2_rf {P : Nat → Nat → Prop} : ∀ {l : List Nat}, (∀ a, a ∈ l → P a a) → F2 P l l := by
  intro l
  induction l with
  | nil => intro _; trivial
  | cons a l ih => intro h; exact ⟨h a List.mem_cons_self, ih (fun x hx => h x (List.mem_cons_of_mem _ hx))⟩
theorem F2_sy {P Q : Nat → Nat → Prop} : ∀ {l m : List Nat}, (∀ a b, P a b → Q b a) → F2 P l m → F2 Q m l := by
  intro l
  induction l with
  | nil => intro m h q; cases m with
    | nil => trivial
    | cons b m => exact q.elim
  | cons a l ih => intro m h q; cases m with
    | nil => exact q.elim
    | cons b m => exact ⟨h a b q.1, ih h q.2⟩
theorem F2_tr {P Q R : Nat → Nat → Prop} : ∀ {l m k : List Nat}, (∀ a b c, P a b → Q b c → R a c) → F2 P l m → F2 Q m k → F2 R l k := by
  intro l
  induction l with
  | nil => intro m k h q w; cases m with
    | nil => cases k with
      | nil => trivial
      | cons c k => exact w.elim
    | cons b m => exact q.elim
  | cons a l ih => intro m k h q w; cases m with
    | nil => exact q.elim
    | cons b m => cases k with
      | nil => exact w.elim
      | cons c k => exact ⟨h a b c q.1 w.1, ih h q.2 w.2⟩
theorem F2_nil {P : Nat → Nat → Prop} : ∀ {l m : List Nat}, F2 P l m → (l = [] ↔ m = []) := by
  intro l m h
  cases l <;> cases m
  · exact ⟨fun _ => rfl, fun _ => rfl⟩
  · exact h.elim
  · exact h.elim
  · exact ⟨fun q => (by cases q), fun q => (by cases q)⟩
/-- two transitions with the same guards and actions -/
def lab (c_variable c_relation c_number c_actions c_kind c_a c_b : Nat → Int32) (i j : Nat) : Prop := c_variable i = c_variable j ∧ c_relation i = c_relation j ∧ c_number i = c_number j ∧ c_actions i = c_actions j ∧ ∀ k, nI k < c_actions i → k < 3 → c_kind (3 * i + k) = c_kind (3 * j + k) ∧ c_a (3 * i + k) = c_a (3 * j + k) ∧ c_b (3 * i + k) = c_b (3 * j + k)
theorem lab_rf {vr rl nm ac kd aa bb : Nat → Int32} {i : Nat} : lab vr rl nm ac kd aa bb i i := ⟨rfl, rfl, rfl, rfl, fun _ _ _ => ⟨rfl, rfl, rfl⟩⟩
theorem lab_sy {vr rl nm ac kd aa bb : Nat → Int32} {i j : Nat} (h : lab vr rl nm ac kd aa bb i j) : lab vr rl nm ac kd aa bb j i := by
  obtain ⟨a, b, c, d, e⟩ := h
  exact ⟨a.symm, b.symm, c.symm, d.symm, fun k h h3 => by obtain ⟨x, y, z⟩ := e k (by rw [d]; exact h) h3; exact ⟨x.symm, y.symm, z.symm⟩⟩
theorem lab_tr {vr rl nm ac kd aa bb : Nat → Int32} {i j k : Nat} (h : lab vr rl nm ac kd aa bb i j) (h' : lab vr rl nm ac kd aa bb j k) : lab vr rl nm ac kd aa bb i k := by
  obtain ⟨a, b, c, d, e⟩ := h
  obtain ⟨a', b', c', d', e'⟩ := h'
  exact ⟨a.trans a', b.trans b', c.trans c', d.trans d', fun q h h3 => by
    obtain ⟨x, y, z⟩ := e q h h3
    obtain ⟨x', y', z'⟩ := e' q (by rw [← d]; exact h) h3
    exact ⟨x.trans x', y.trans y', z.trans z'⟩⟩
theorem same_loop {c_actions c_kind c_a c_b : Nat → Int32} {i j m : Nat} (hi : i < 40) (hj : j < 40) (hm : m ≤ 3) (em : c_actions i = nI m) :
    ∀ (n k : Nat), k ≤ m → m - k < n → ∃ b, X1_doTheSame_L75 c_actions c_kind c_a c_b (nI i) (nI j) n (nI k) = some b ∧ isB b (∀ q, k ≤ q → q < m → c_kind (3 * i + q) = c_kind (3 * j + q) ∧ c_a (3 * i + q) = c_a (3 * j + q) ∧ c_b (3 * i + q) = c_b (3 * j + q)) := by
  intro n
  induction n with
  | zero => intro k _ h; omega
  | succ n ih =>
    intro k hk hn
    show ∃ b, X1_doTheSame_B75 c_actions c_kind c_a c_b (nI i) (nI j) (X1_doTheSame_L75 c_actions c_kind c_a c_b (nI i) (nI j) n) (nI k) = some b ∧ _
    unfold X1_doTheSame_B75
    rw [ix_ok hi (by decide), nI_clamp (n := i) (by omega), em]
    by_cases hkm : k = m
    · subst hkm
      rw [if_pos (nI_le (Nat.le_refl k) (by omega))]
      exact ⟨1, rfl, Or.inl ⟨rfl, fun q a b => absurd a (by omega)⟩⟩
    · have hk' : k < m := by omega
      rw [if_neg (nI_ge hk' (by omega)), i3, pk_mul, nI_add, pk_mul, nI_add, ix_ok (n := 120) (by omega) (by decide), ix_ok (n := 120) (by omega) (by decide), nI_clamp (n := 3 * i + k) (by omega), nI_clamp (n := 3 * j + k) (by omega), nI_1]
      by_cases h1 : c_kind (3 * i + k) = c_kind (3 * j + k)
      · rw [if_pos h1]
        by_cases h2 : c_a (3 * i + k) = c_a (3 * j + k)
        · rw [if_pos h2]
          by_cases h3 : c_b (3 * i + k) = c_b (3 * j + k)
          · rw [if_pos h3]
            obtain ⟨b, hb, w⟩ := ih (k + 1) (by omega) (by omega)
            refine ⟨b, hb, ?_⟩
            rcases w with ⟨p, z⟩ | ⟨p, z⟩
            · refine Or.inl ⟨p, fun q a c => ?_⟩
              by_cases e : q = k
              · rw [e]; exact ⟨h1, h2, h3⟩
              · exact z q (by omega) c
            · exact Or.inr ⟨p, fun y => z (fun q a c => y q (by omega) c)⟩
          · rw [if_neg h3]
            exact ⟨0, rfl, Or.inr ⟨rfl, fun y => h3 (y k (Nat.le_refl k) hk').2.2⟩⟩
        · rw [if_neg h2]
          exact ⟨0, rfl, Or.inr ⟨rfl, fun y => h2 (y k (Nat.le_refl k) hk').2.1⟩⟩
      · rw [if_neg h1]
        exact ⟨0, rfl, Or.inr ⟨rfl, fun y => h1 (y k (Nat.le_refl k) hk').1⟩⟩
theorem same_c {c_variable c_relation c_number c_actions c_kind c_a c_b : Nat → Int32} {i j fu : Nat} (hfu : 50 ≤ fu) (hi : i < 40) (hj : j < 40) (hm : ∃ m, m ≤ 3 ∧ c_actions i = nI m) : ∃ b, X1_doTheSame fu c_variable c_relation c_number c_actions c_kind c_a c_b (nI i) (nI j) = some b ∧ isB b (lab c_variable c_relation c_number c_actions c_kind c_a c_b i j) := by
  obtain ⟨m, hm, em⟩ := hm
  unfold X1_doTheSame X1_doTheSame_B49 X1_doTheSame_B50 lab
  rw [ix_ok hi (by decide), ix_ok hj (by decide), nI_clamp (n := i) (by omega), nI_clamp (n := j) (by omega)]
  by_cases h1 : c_variable i = c_variable j
  · rw [if_pos h1]
    by_cases h2 : c_relation i = c_relation j
    · rw [if_pos h2]
      by_cases h3 : c_number i = c_number j
      · rw [if_pos h3, if_neg (by decide : ¬ (1 : Int32) = 0), ix_ok hi (by decide), ix_ok hj (by decide)]
        by_cases h4 : c_actions i = c_actions j
        · rw [if_pos h4, show (0 : Int32) = nI 0 from rfl]
          obtain ⟨b, hb, w⟩ := same_loop (c_actions := c_actions) (c_kind := c_kind) (c_a := c_a) (c_b := c_b) hi hj hm em fu 0 (by omega) (by omega)
          refine ⟨b, hb, ?_⟩
          rcases w with ⟨p, z⟩ | ⟨p, z⟩
          · exact Or.inl ⟨p, h1, h2, h3, h4, fun k a c => z k (by omega) (by rw [em, nI_ltI (by omega) (by omega)] at a; exact a)⟩
          · exact Or.inr ⟨p, fun y => z (fun q _ c => y.2.2.2.2 q (by rw [em]; exact nI_lt c (by omega)) (by omega))⟩
        · rw [if_neg h4]
          exact ⟨0, rfl, Or.inr ⟨rfl, fun y => h4 y.2.2.2.1⟩⟩
      · rw [if_neg h3, if_pos rfl]
        exact ⟨0, rfl, Or.inr ⟨rfl, fun y => h3 y.2.2.1⟩⟩
    · rw [if_neg h2, if_pos rfl]
      exact ⟨0, rfl, Or.inr ⟨rfl, fun y => h2 y.2.1⟩⟩
  · rw [if_neg h1, if_pos rfl]
    exact ⟨0, rfl, Or.inr ⟨rfl, fun y => h1 y.1⟩⟩
