/-! Pure facts: the functions of the class and of the reference. -/
theorem ix_ok {α : Type} {k n : Nat} {B : Option α} (h : k < n) (hn : n < 2 ^ 31) : ix (nI k) n B = B := if_neg (nI_in h hn)
theorem nz_0 {α : Type} {B : Option α} : nz 0 B = B := if_pos (Or.inl rfl)
theorem nz_1 {α : Type} {B : Option α} : nz 1 B = B := if_pos (Or.inr rfl)
theorem ob_s {α β : Type} (x : α) (f : α → Option β) : (some x).bind f = f x := rfl
theorem nI_m1 {j : Nat} (h : j < 2 ^ 31) : ¬ nI j = (-1 : Int32) := fun q => by
  have h1 := nI_toInt h
  rw [q] at h1
  have h2 : ((-1 : Int32)).toInt = -1 := by decide
  omega
theorem i4 : (4 : Int32) = nI 4 := rfl
/-! timers -/
theorem fd_nt {c_due m_dues : Nat → Int64} {m_runs : Nat → Int32} (v : Int64) (h : ∀ i, i < 4 → (m_runs i = 0 ∧ c_due i = -1) ∨ (m_runs i = 1 ∧ c_due i = m_dues i ∧ ¬ m_dues i = -1)) :
    ∀ (n k : Nat) (f : Int32), (f = -1 ∨ ∃ j, j < 4 ∧ f = nI j ∧ m_runs j = 1) → k ≤ 4 → X0_firstDue_L5 c_due v n f (nI k) = X4_nextTimer_L5 m_runs m_dues v n f (nI k) := by
  intro n
  induction n with
  | zero => intro k f _ _; rfl
  | succ n ih =>
    intro k f hf hk
    show X0_firstDue_B5 c_due v (X0_firstDue_L5 c_due v n) f (nI k) = X4_nextTimer_B5 m_runs m_dues v (X4_nextTimer_L5 m_runs m_dues v n) f (nI k)
    unfold X0_firstDue_B5 X4_nextTimer_B5
    by_cases hk4 : k = 4
    · subst hk4
      rw [if_pos (by decide), if_pos (by decide)]
    · have hk' : k < 4 := by omega
      have hn : ¬ (4 : Int32) ≤ nI k := nI_ge (b := 4) hk' (by omega)
      rw [if_neg hn, if_neg hn, ix_ok hk' (by decide), ix_ok hk' (by decide), nI_clamp (by omega)]
      rcases h k hk' with ⟨h0, hd⟩ | ⟨h1, hd, hne⟩
      · rw [hd, h0, if_pos ((lg_cmp_eq _ _).mpr rfl), if_pos rfl]
        unfold X0_firstDue_B41 X0_firstDue_B42
        rw [if_pos rfl, nI_1]
        exact ih (k + 1) f hf (by omega)
      · rw [hd, h1, if_neg (fun q => hne ((lg_cmp_eq _ _).mp q)), if_neg (by decide : ¬ (1 : Int32) = 0)]
        by_cases hg : (0 : Int32) < lg_cmp (m_dues k) v
        · rw [if_pos hg, if_pos hg]
          unfold X0_firstDue_B41 X0_firstDue_B42
          rw [if_pos rfl, nI_1]
          exact ih (k + 1) f hf (by omega)
        · rw [if_neg hg, if_neg hg]
          unfold X0_firstDue_B42
          rw [if_neg (by decide : ¬ (1 : Int32) = 0)]
          rcases hf with rfl | ⟨j, hj, rfl, hr⟩
          · rw [if_pos rfl, if_pos rfl, nI_1]
            exact ih (k + 1) (nI k) (Or.inr ⟨k, hk', rfl, h1⟩) (by omega)
          · have hjm : ¬ nI j = (-1 : Int32) := nI_m1 (by omega)
            rw [if_neg hjm, if_neg hjm, ix_ok hk' (by decide), ix_ok hj (by decide), ix_ok hj (by decide), nI_clamp (n := k) (by omega), nI_clamp (n := j) (by omega)]
            rcases h j hj with ⟨q, -⟩ | ⟨-, hdj, -⟩
            · rw [q] at hr; exact absurd hr (by decide)
            · rw [hd, hdj, nI_1]
              by_cases hq : (0 : Int32) ≤ lg_cmp (m_dues k) (m_dues j)
              · rw [if_pos hq, if_pos hq]
                exact ih (k + 1) (nI j) (Or.inr ⟨j, hj, rfl, hr⟩) (by omega)
              · rw [if_neg hq, if_neg hq]
                exact ih (k + 1) (nI k) (Or.inr ⟨k, hk', rfl, h1⟩) (by omega)
/-- the timer that is taken next, up to place k -/
def ntI (m_runs : Nat → Int32) (d : Nat → Nat) (g k : Nat) (f : Int32) : Prop := (f = -1 ∧ ∀ i, i < k → m_runs i = 1 → g < d i) ∨ ∃ j, j < 4 ∧ f = nI j ∧ m_runs j = 1 ∧ d j ≤ g ∧ ∀ i, i < k → m_runs i = 1 → d j ≤ d i
theorem nt_spec {m_dues : Nat → Int64} {m_runs : Nat → Int32} {d : Nat → Nat} {g : Nat} (hg : g < 2 ^ 31) (h : ∀ i, i < 4 → m_runs i = 0 ∨ (m_runs i = 1 ∧ m_dues i = lN (d i) ∧ d i < 2 ^ 31)) :
    ∀ (n k : Nat) (f : Int32), ntI m_runs d g k f → k ≤ 4 → 4 - k < n → ∃ r, X4_nextTimer_L5 m_runs m_dues (lN g) n f (nI k) = some r ∧ ntI m_runs d g 4 r := by
  intro n
  induction n with
  | zero => intro k f _ _ hn; omega
  | succ n ih =>
    intro k f hf hk hn
    show ∃ r, X4_nextTimer_B5 m_runs m_dues (lN g) (X4_nextTimer_L5 m_runs m_dues (lN g) n) f (nI k) = some r ∧ _
    unfold X4_nextTimer_B5
    by_cases hk4 : k = 4
    · subst hk4
      rw [if_pos (by decide)]
      exact ⟨f, rfl, hf⟩
    · have hk' : k < 4 := by omega
      have hn4 : ¬ (4 : Int32) ≤ nI k := nI_ge (b := 4) hk' (by omega)
      rw [if_neg hn4, ix_ok hk' (by decide), nI_clamp (by omega)]
      rcases h k hk' with h0 | ⟨h1, hd, hb⟩
      · rw [if_pos h0, nI_1]
        refine ih (k + 1) f ?_ (by omega) (by omega)
        rcases hf with ⟨e, q⟩ | ⟨j, a, b, c, e, q⟩
        · refine Or.inl ⟨e, fun i hi hr => ?_⟩
          by_cases e2 : i = k
          · rw [e2, h0] at hr; exact absurd hr (by decide)
          · exact q i (by omega) hr
        · refine Or.inr ⟨j, a, b, c, e, fun i hi hr => ?_⟩
          by_cases e2 : i = k
          · rw [e2, h0] at hr; exact absurd hr (by decide)
          · exact q i (by omega) hr
      · rw [h1, if_neg (by decide : ¬ (1 : Int32) = 0), hd]
        by_cases hgt : (0 : Int32) < lg_cmp (lN (d k)) (lN g)
        · rw [if_pos hgt, nI_1]
          have hgk : g < d k := (lN_lt hg hb).mp ((lg_cmp_gt _ _).mp hgt)
          refine ih (k + 1) f ?_ (by omega) (by omega)
          rcases hf with ⟨e, q⟩ | ⟨j, a, b, c, e, q⟩
          · refine Or.inl ⟨e, fun i hi hr => ?_⟩
            by_cases e2 : i = k
            · rw [e2]; exact hgk
            · exact q i (by omega) hr
          · refine Or.inr ⟨j, a, b, c, e, fun i hi hr => ?_⟩
            by_cases e2 : i = k
            · rw [e2]; omega
            · exact q i (by omega) hr
        · rw [if_neg hgt]
          have hgk : d k ≤ g := Nat.not_lt.mp (fun q => hgt ((lg_cmp_gt _ _).mpr ((lN_lt hg hb).mpr q)))
          rcases hf with ⟨e, q⟩ | ⟨j, a, b, c, e, q⟩
          · rw [if_pos e, nI_1]
            refine ih (k + 1) (nI k) (Or.inr ⟨k, hk', rfl, h1, hgk, fun i hi hr => ?_⟩) (by omega) (by omega)
            by_cases e2 : i = k
            · rw [e2]; exact Nat.le_refl _
            · have := q i (by omega) hr; omega
          · subst b
            rw [if_neg (nI_m1 (by omega)), ix_ok a (by decide), nI_clamp (n := j) (by omega), nI_1]
            rcases h j a with q0 | ⟨-, hdj, hbj⟩
            · rw [q0] at c; exact absurd c (by decide)
            · rw [hdj]
              by_cases hq : (0 : Int32) ≤ lg_cmp (lN (d k)) (lN (d j))
              · rw [if_pos hq]
                have hjk : d j ≤ d k := (lN_le hbj hb).mp ((lg_cmp_ge _ _).mp hq)
                refine ih (k + 1) (nI j) (Or.inr ⟨j, a, rfl, c, e, fun i hi hr => ?_⟩) (by omega) (by omega)
                by_cases e2 : i = k
                · rw [e2]; exact hjk
                · exact q i (by omega) hr
              · rw [if_neg hq]
                have hjk : d k < d j := Nat.not_le.mp (fun z => hq ((lg_cmp_ge _ _).mpr ((lN_le hbj hb).mpr z)))
                refine ih (k + 1) (nI k) (Or.inr ⟨k, hk', rfl, h1, hgk, fun i hi hr => ?_⟩) (by omega) (by omega)
                by_cases e2 : i = k
                · rw [e2]; exact Nat.le_refl _
                · have := q i (by omega) hr; omega
