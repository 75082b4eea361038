/-! what the two sides test before they answer -/
def inn (a : Int32) (n : Nat) : Prop := ∃ k, k < n ∧ a = nI k
theorem ti_lt {a b : Int32} : a < b ↔ a.toInt < b.toInt := Int32.lt_iff_toInt_lt
theorem ti_le {a b : Int32} : a ≤ b ↔ a.toInt ≤ b.toInt := Int32.le_iff_toInt_le
theorem inn_iff {a : Int32} {n : Nat} (hn : n ≤ 2 ^ 31) : inn a n ↔ (0 ≤ a.toInt ∧ a.toInt < n) := by
  constructor
  · rintro ⟨k, hk, rfl⟩
    rw [nI_toInt (by omega)]
    omega
  · rintro ⟨h1, h2⟩
    obtain ⟨j, hj, rfl⟩ := nI_of (x := a) (fun h => by rw [ti_lt, ti_0] at h; omega)
    rw [nI_toInt hj] at h2
    exact ⟨j, by omega, rfl⟩
theorem below_s (a : Int32) {n : Nat} (hn : n < 2 ^ 31) : ∃ b, X3_isBelow a (nI n) = some b ∧ isB b (inn a n) := by
  unfold X3_isBelow
  have hz := inn_iff (a := a) (n := n) (by omega)
  by_cases h1 : a < 0
  · rw [if_pos h1]
    refine ⟨0, rfl, Or.inr ⟨rfl, fun h => ?_⟩⟩
    rw [hz] at h
    rw [ti_lt, ti_0] at h1
    omega
  · rw [if_neg h1]
    rw [ti_lt, ti_0] at h1
    by_cases h2 : nI n ≤ a
    · rw [if_pos h2]
      rw [ti_le, nI_toInt hn] at h2
      exact ⟨0, rfl, Or.inr ⟨rfl, fun h => by rw [hz] at h; omega⟩⟩
    · rw [if_neg h2]
      rw [ti_le, nI_toInt hn] at h2
      exact ⟨1, rfl, Or.inl ⟨rfl, hz.mpr (by omega)⟩⟩
theorem isIn_s (a lo hi : Int32) : ∃ b, X4_isIn a lo hi = some b ∧ isB b (lo.toInt ≤ a.toInt ∧ a.toInt ≤ hi.toInt) := by
  unfold X4_isIn
  by_cases h1 : a < lo
  · rw [if_pos h1]
    rw [ti_lt] at h1
    exact ⟨0, rfl, Or.inr ⟨rfl, fun h => by omega⟩⟩
  · rw [if_neg h1]
    rw [ti_lt] at h1
    by_cases h2 : hi < a
    · rw [if_pos h2]
      rw [ti_lt] at h2
      exact ⟨0, rfl, Or.inr ⟨rfl, fun h => by omega⟩⟩
    · rw [if_neg h2]
      rw [ti_lt] at h2
      exact ⟨1, rfl, Or.inl ⟨rfl, by omega⟩⟩
theorem isIn_0 (a : Int32) {hi : Int32} {n : Nat} (hn : n < 2 ^ 31) (h : hi.toInt = (n : Int) - 1) : ∃ b, X4_isIn a 0 hi = some b ∧ isB b (inn a n) := by
  obtain ⟨b, h1, h2⟩ := isIn_s a 0 hi
  refine ⟨b, h1, ?_⟩
  have hz := inn_iff (a := a) (n := n) (by omega)
  rw [h, ti_0] at h2
  rcases h2 with ⟨e, q⟩ | ⟨e, q⟩
  · exact Or.inl ⟨e, hz.mpr (by omega)⟩
  · exact Or.inr ⟨e, fun z => q (by rw [hz] at z; omega)⟩
theorem pred_ti {n : Nat} (hn : n < 2 ^ 31) : (nI n - 1).toInt = (n : Int) - 1 := by
  rw [ti_sub (by rw [nI_toInt hn, ti_1]; omega) (by rw [nI_toInt hn, ti_1]; omega), nI_toInt hn, ti_1]
theorem isState_s (a : Int32) {n : Nat} (hn : n < 2 ^ 31) : ∃ b, X4_isState (nI n) a = some b ∧ isB b (inn a n) := by
  obtain ⟨b, h1, h2⟩ := isIn_0 a hn (pred_ti hn)
  unfold X4_isState
  rw [h1, ob_s, isB_nz h2]
  exact ⟨b, rfl, h2⟩
theorem isTrans_s (a : Int32) {n : Nat} (hn : n < 2 ^ 31) : ∃ b, X4_isTransition (nI n) a = some b ∧ isB b (inn a n) := by
  obtain ⟨b, h1, h2⟩ := isIn_0 a hn (pred_ti hn)
  unfold X4_isTransition
  rw [h1, ob_s, isB_nz h2]
  exact ⟨b, rfl, h2⟩
theorem isEvent_s (a : Int32) : ∃ b, X4_isEvent a = some b ∧ isB b (inn a 8) := by
  obtain ⟨b, h1, h2⟩ := isIn_0 a (hi := 7) (n := 8) (by decide) (by decide)
  unfold X4_isEvent
  rw [h1, ob_s, isB_nz h2]
  exact ⟨b, rfl, h2⟩
theorem isNum_m (a : Int32) : ∃ b, X4_isNumber a = some b ∧ isB b (sm a) := by
  obtain ⟨b, h1, h2⟩ := isIn_s a (-1000) 1000
  rw [ti_K, ti_mK] at h2
  unfold X4_isNumber
  rw [h1, ob_s, isB_nz h2]
  exact ⟨b, rfl, h2⟩
theorem isNum_c (a : Int32) : ∃ b, X3_isNumber a = some b ∧ isB b (sm a) := by
  obtain ⟨b, h1, h2⟩ := isIn_s a (-1000) 1000
  rw [ti_K, ti_mK] at h2
  exact ⟨b, h1, h2⟩
/-- both sides' tests, with one answer -/
theorem two {A B : Int32 → Prop} {P : Prop} (h1 : ∃ b, A b ∧ isB b P) (h2 : ∃ b, B b ∧ isB b P) : (A 1 ∧ B 1 ∧ P) ∨ (A 0 ∧ B 0 ∧ ¬ P) := by
  obtain ⟨b, a1, a2⟩ := h1
  obtain ⟨c, b1, b2⟩ := h2
  have e := isB_uniq a2 b2 Iff.rfl
  subst e
  rcases a2 with ⟨rfl, p⟩ | ⟨rfl, p⟩
  · exact Or.inl ⟨a1, b1, p⟩
  · exact Or.inr ⟨a1, b1, p⟩
theorem tw_state (a : Int32) {n : Nat} (hn : n < 2 ^ 31) : (X3_isBelow a (nI n) = some 1 ∧ X4_isState (nI n) a = some 1 ∧ inn a n) ∨ (X3_isBelow a (nI n) = some 0 ∧ X4_isState (nI n) a = some 0 ∧ ¬ inn a n) := two (A := fun b => X3_isBelow a (nI n) = some b) (B := fun b => X4_isState (nI n) a = some b) (below_s a hn) (isState_s a hn)
theorem tw_trans (a : Int32) {n : Nat} (hn : n < 2 ^ 31) : (X3_isBelow a (nI n) = some 1 ∧ X4_isTransition (nI n) a = some 1 ∧ inn a n) ∨ (X3_isBelow a (nI n) = some 0 ∧ X4_isTransition (nI n) a = some 0 ∧ ¬ inn a n) := two (A := fun b => X3_isBelow a (nI n) = some b) (B := fun b => X4_isTransition (nI n) a = some b) (below_s a hn) (isTrans_s a hn)
theorem tw_event (a : Int32) : (X3_isBelow a 8 = some 1 ∧ X4_isEvent a = some 1 ∧ inn a 8) ∨ (X3_isBelow a 8 = some 0 ∧ X4_isEvent a = some 0 ∧ ¬ inn a 8) := two (A := fun b => X3_isBelow a 8 = some b) (B := fun b => X4_isEvent a = some b) (below_s a (n := 8) (by decide)) (isEvent_s a)
theorem tw_in (a : Int32) {n : Nat} {hi : Int32} (hn : n < 2 ^ 31) (h : hi.toInt = (n : Int) - 1) : (X3_isBelow a (nI n) = some 1 ∧ X4_isIn a 0 hi = some 1 ∧ inn a n) ∨ (X3_isBelow a (nI n) = some 0 ∧ X4_isIn a 0 hi = some 0 ∧ ¬ inn a n) := two (A := fun b => X3_isBelow a (nI n) = some b) (B := fun b => X4_isIn a 0 hi = some b) (below_s a hn) (isIn_0 a hn h)
theorem tw_num (a : Int32) : (X3_isNumber a = some 1 ∧ X4_isNumber a = some 1 ∧ sm a) ∨ (X3_isNumber a = some 0 ∧ X4_isNumber a = some 0 ∧ ¬ sm a) := two (A := fun b => X3_isNumber a = some b) (B := fun b => X4_isNumber a = some b) (isNum_c a) (isNum_m a)
theorem e10 : ((1 : Int32) = 0) = False := by decide
theorem e20 : ((2 : Int32) = 0) = False := by decide
theorem e30 : ((3 : Int32) = 0) = False := by decide
theorem cmpU {f : Nat → Int64} {x : Int64} : (lg_cmp (vp_updL f (0 : Int32).toNatClampNeg x (0 : Int32).toNatClampNeg) x = (0 : Int32)) = True := by
  rw [updL_s]
  exact eq_true ((lg_cmp_eq _ _).mpr rfl)
theorem xb_l {α β : Type} {E : String} {h : String → Option β} {f : α → Option β} : xb (some (.inl E)) h f = h E := rfl
theorem xb_r {α β : Type} {u : α} {h : String → Option β} {f : α → Option β} : xb (some (.inr u)) h f = f u := rfl
theorem sIS : ("java/lang/IndexOutOfBoundsException" = "java/lang/IllegalStateException") = False := by decide
theorem sSI : ("java/lang/IllegalStateException" = "java/lang/IndexOutOfBoundsException") = False := by decide
theorem sAI : ("java/lang/IllegalArgumentException" = "java/lang/IndexOutOfBoundsException") = False := by decide
theorem sSA : ("java/lang/IllegalStateException" = "java/lang/IllegalArgumentException") = False := by decide
theorem pS {n : Nat} : nI (n + 1) - 1 = nI n := nI_pred n
