/-! digest -/
theorem mix_s (a b : Int64) : X3_mix a b = some (a * 31 + b) := rfl
theorem dg_t {C : Nat} (hC : C ≤ 12) {co mo : Nat → Int32} (h : ∀ c, c < C → co c = mo c) (th : Int32) : ∀ (n k : Nat) (v : Int64), k ≤ C → C - k < n → ∃ r, X3_mixTable_L16 (nI C) co n v (nI k) = some r ∧ X4_digest_L222 (nI C) mo n th v (nI k) = some (r, th) := by
  intro n
  induction n with
  | zero => intro k v _ h; omega
  | succ n ih =>
    intro k v hk hn
    show ∃ r, X3_mixTable_B16 (nI C) co (X3_mixTable_L16 (nI C) co n) v (nI k) = some r ∧ X4_digest_B222 (nI C) mo (X4_digest_L222 (nI C) mo n) th v (nI k) = some (r, th)
    unfold X3_mixTable_B16 X4_digest_B222
    by_cases e : k = C
    · subst e
      rw [if_pos (nI_le (Nat.le_refl k) (by omega)), if_pos (nI_le (Nat.le_refl k) (by omega))]
      exact ⟨v, rfl, rfl⟩
    · rw [if_neg (nI_ge (show k < C by omega) (by omega)), if_neg (nI_ge (show k < C by omega) (by omega)), ix_ok (show k < 12 by omega) (by decide), ix_ok (show k < 12 by omega) (by decide), nI_clamp (by omega), nI_1, mix_s, ob_s, h k (by omega)]
      exact ih (k + 1) _ (by omega) (by omega)
/-- the reference's end of the digest -/
def dgF (fu : Nat) (mc mcl : Int32) (mo : Nat → Int32) (th : Int32) (y : Int64) : Option (Int64 × Int32) := if mc = 0 then some (y, th) else X4_digest_L222 mcl mo fu th (y * 31 + mcl.toInt64) 0
section DG
variable {fu t : Nat} {em ig mc mcl th : Int32} {cd md : Nat → Int64} {cv mv mr mo : Nat → Int32} {d : Nat → Nat}
theorem dg_59 (hd : ∀ i, i < 4 → (mr i = 0 ∧ cd i = -1) ∨ (mr i = 1 ∧ cd i = lN (d i) ∧ md i = lN (d i) ∧ d i < 2 ^ 30)) : ∀ (n k : Nat) (v : Int64), k ≤ 4 → 4 - k < n → ∃ y, X3_mixExecution_L59 (lN t) em ig cd n v (nI k) = some y ∧ X4_digest_L153 fu (lN t) mr md em ig mc mcl mo n th v (nI k) = dgF fu mc mcl mo th y := by
  intro n
  induction n with
  | zero => intro k v _ h; omega
  | succ n ih =>
    intro k v hk hn
    show ∃ y, X3_mixExecution_B59 (lN t) em ig cd (X3_mixExecution_L59 (lN t) em ig cd n) v (nI k) = some y ∧ X4_digest_B153 fu (lN t) mr md em ig mc mcl mo (X4_digest_L153 fu (lN t) mr md em ig mc mcl mo n) th v (nI k) = dgF fu mc mcl mo th y
    unfold X3_mixExecution_B59 X4_digest_B153
    by_cases e : k = 4
    · subst e
      rw [if_pos (by decide), if_pos (by decide)]
      unfold X3_mixExecution_B86 X4_digest_B177 dgF
      refine ⟨(v * 31 + em.toInt64) * 31 + ig.toInt64, rfl, rfl⟩
    · have h4 : ¬ (4 : Int32) ≤ nI k := nI_ge (b := 4) (by omega) (by decide)
      obtain ⟨r, h1, h2⟩ := left_eq (t := t) hd (show k < 4 by omega)
      rw [if_neg h4, if_neg h4, h1, h2, ob_s, ob_s, mix_s, ob_s, nI_1]
      exact ih (k + 1) _ (by omega) (by omega)
theorem dg_28 (hfu : 50 ≤ fu) (hd : ∀ i, i < 4 → (mr i = 0 ∧ cd i = -1) ∨ (mr i = 1 ∧ cd i = lN (d i) ∧ md i = lN (d i) ∧ d i < 2 ^ 30)) (hv : ∀ v, v < 3 → cv v = mv v) : ∀ (n k : Nat) (v : Int64), k ≤ 3 → 3 - k < n → ∃ y, X3_mixExecution_L28 fu (lN t) em ig cv cd n v (nI k) = some y ∧ X4_digest_L126 fu (lN t) mv mr md em ig mc mcl mo n th v (nI k) = dgF fu mc mcl mo th y := by
  intro n
  induction n with
  | zero => intro k v _ h; omega
  | succ n ih =>
    intro k v hk hn
    show ∃ y, X3_mixExecution_B28 fu (lN t) em ig cv cd (X3_mixExecution_L28 fu (lN t) em ig cv cd n) v (nI k) = some y ∧ X4_digest_B126 fu (lN t) mv mr md em ig mc mcl mo (X4_digest_L126 fu (lN t) mv mr md em ig mc mcl mo n) th v (nI k) = dgF fu mc mcl mo th y
    unfold X3_mixExecution_B28 X4_digest_B126
    by_cases e : k = 3
    · subst e
      rw [if_pos (by decide), if_pos (by decide)]
      exact dg_59 (fu := fu) (t := t) hd fu 0 v (by omega) (by omega)
    · have h3 : ¬ (3 : Int32) ≤ nI k := nI_ge (b := 3) (by omega) (by decide)
      rw [if_neg h3, if_neg h3, ix_ok (show k < 3 by omega) (by decide), ix_ok (show k < 3 by omega) (by decide), nI_clamp (by omega), nI_1, mix_s, ob_s, hv k (by omega)]
      exact ih (k + 1) _ (by omega) (by omega)
theorem dg_32 (hfu : 50 ≤ fu) (hd : ∀ i, i < 4 → (mr i = 0 ∧ cd i = -1) ∨ (mr i = 1 ∧ cd i = lN (d i) ∧ md i = lN (d i) ∧ d i < 2 ^ 30)) (hv : ∀ v, v < 3 → cv v = mv v) {T : Nat} (hT : T ≤ 40) {cf ce cn ca fi mf me mn ms mfi co : Nat → Int32} (hr : ∀ q, q < T → cf q = mf q ∧ ce q = me q ∧ cn q = mn q ∧ ca q = ms q ∧ fi q = mfi q) {pr mk cl : Int32} (htab : (mk = 0 ∧ mc = 0) ∨ (mk = 1 ∧ mc = 1 ∧ ∃ C, C ≤ 12 ∧ cl = nI C ∧ mcl = nI C ∧ ∀ c, c < C → co c = mo c)) : ∀ (n k : Nat) (v : Int64), k ≤ T → T - k < n → ∃ y, X3_digest_L32 fu (nI T) cf ce cn ca pr (lN t) em ig cv cd fi mk cl co n v (nI k) = some y ∧ X4_digest_L27 fu (nI T) mf me mn ms mfi pr (lN t) mv mr md em ig mc mcl mo n th v (nI k) = some (y, th) := by
  intro n
  induction n with
  | zero => intro k v _ h; omega
  | succ n ih =>
    intro k v hk hn
    show ∃ y, X3_digest_B32 fu (nI T) cf ce cn ca pr (lN t) em ig cv cd fi mk cl co (X3_digest_L32 fu (nI T) cf ce cn ca pr (lN t) em ig cv cd fi mk cl co n) v (nI k) = some y ∧ X4_digest_B27 fu (nI T) mf me mn ms mfi pr (lN t) mv mr md em ig mc mcl mo (X4_digest_L27 fu (nI T) mf me mn ms mfi pr (lN t) mv mr md em ig mc mcl mo n) th v (nI k) = some (y, th)
    unfold X3_digest_B32 X4_digest_B27
    by_cases e : k = T
    · subst e
      rw [if_pos (nI_le (Nat.le_refl k) (by omega)), if_pos (nI_le (Nat.le_refl k) (by omega))]
      unfold X3_digest_B124 X4_digest_B103 X3_mixExecution
      obtain ⟨y, h1, h2⟩ := dg_28 (fu := fu) (t := t) (em := em) (ig := ig) (mc := mc) (mcl := mcl) (th := th) (mo := mo) hfu hd hv fu 0 ((v * 31 + pr.toInt64) * 31 + lN t) (by omega) (by omega)
      have h1 : X3_mixExecution_L28 fu (lN t) em ig cv cd fu ((v * 31 + pr.toInt64) * 31 + lN t) 0 = some y := h1
      have h2 : X4_digest_L126 fu (lN t) mv mr md em ig mc mcl mo fu th ((v * 31 + pr.toInt64) * 31 + lN t) 0 = _ := h2
      rw [mix_s, ob_s, mix_s, ob_s, h1, ob_s, h2]
      unfold dgF
      rcases htab with ⟨rfl, rfl⟩ | ⟨rfl, rfl, C, hC, rfl, rfl, hco⟩
      · exact ⟨y, rfl, rfl⟩
      · rw [if_neg (by decide)]
        unfold X3_mixTable
        obtain ⟨r, g1, g2⟩ := dg_t hC hco th fu 0 (y * 31 + (nI C).toInt64) (by omega) (by omega)
        have g1 : X3_mixTable_L16 (nI C) co fu (y * 31 + (nI C).toInt64) 0 = some r := g1
        rw [mix_s, ob_s, g1, ob_s]
        exact ⟨r, rfl, g2⟩
    · rw [if_neg (nI_ge (show k < T by omega) (by omega)), if_neg (nI_ge (show k < T by omega) (by omega)), ix_ok (show k < 40 by omega) (by decide), ix_ok (show k < 40 by omega) (by decide), nI_clamp (by omega), nI_1]
      simp only [mix_s, ob_s]
      obtain ⟨r1, r2, r3, r4, r5⟩ := hr k (by omega)
      rw [r1, r2, r3, r4, r5]
      exact ih (k + 1) _ (by omega) (by omega)
theorem digest_sim (hfu : 50 ≤ fu) (hd : ∀ i, i < 4 → (mr i = 0 ∧ cd i = -1) ∨ (mr i = 1 ∧ cd i = lN (d i) ∧ md i = lN (d i) ∧ d i < 2 ^ 30)) (hv : ∀ v, v < 3 → cv v = mv v) {T : Nat} (hT : T ≤ 40) {cf ce cn ca fi mf me mn ms mfi co : Nat → Int32} (hr : ∀ q, q < T → cf q = mf q ∧ ce q = me q ∧ cn q = mn q ∧ ca q = ms q ∧ fi q = mfi q) {pr mk cl : Int32} (htab : (mk = 0 ∧ mc = 0) ∨ (mk = 1 ∧ mc = 1 ∧ ∃ C, C ≤ 12 ∧ cl = nI C ∧ mcl = nI C ∧ ∀ c, c < C → co c = mo c)) (S : Int32) : ∃ y, X3_digest fu S (nI T) cf ce cn ca pr (lN t) em ig cv cd fi mk cl co = some y ∧ X4_digest fu th S (nI T) mf me mn ms mfi pr (lN t) mv mr md em ig mc mcl mo = some (y, 0) := by
  unfold X3_digest X4_digest
  obtain ⟨y, h1, h2⟩ := dg_32 (fu := fu) (t := t) (em := em) (ig := ig) (th := 0) hfu hd hv hT hr (pr := pr) htab fu 0 ((((127 : Int64) * 31 + S.toInt64) * 31) + (nI T).toInt64) (by omega) (by omega)
  refine ⟨y, ?_, ?_⟩
  · rw [mix_s, ob_s, mix_s, ob_s]
    exact h1
  · exact h2
end DG
