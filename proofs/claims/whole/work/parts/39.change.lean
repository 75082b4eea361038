/-! calls that change the protocol -/
theorem rowR_up {S t : Nat} {cf ce cn cv cr cm ca ck c1 c2 mf me mv mr mm mn ms ma : Nat → Int32} (h : rowR S t cf ce cn cv cr cm ca ck c1 c2 mf me mv mr mm mn ms ma) : rowR (S + 1) t cf ce cn cv cr cm ca ck c1 c2 mf me mv mr mm mn ms ma := by
  obtain ⟨⟨s, h1, h2⟩, h3, ⟨x, h4, h5⟩, h6⟩ := h
  exact ⟨⟨s, by omega, h2⟩, h3, ⟨x, by omega, h5⟩, h6⟩
theorem addState_sim {S : Nat} (hS : S ≤ 12) (mk th mc : Int32) (lo : Nat → Int64) : (∃ k x, ¬ k = 0 ∧ L_addState (nI S) mk lo = some (k, nI S, mk, lo) ∧ X4_addState th (nI S) mc = some (x, k, nI S, mc)) ∨ (S < 12 ∧ ∃ r : Int32, L_addState (nI S) mk lo = some (0, nI (S + 1), 0, vp_updL lo (0 : Int32).toNatClampNeg r.toInt64) ∧ X4_addState th (nI S) mc = some (r, 0, nI (S + 1), 0)) := by
  unfold L_addState X3_addState X4_addState X4_fail
  by_cases h : S < 12
  · right
    refine ⟨h, nI S, ?_, ?_⟩
    · rw [if_pos (show nI S < 12 from nI_lt (b := 12) h (by decide)), xb_r, nI_1, pS]
    · rw [if_neg (fun e => by have := (nI_eq (b := 12) (by omega) (by decide)).mp e; omega), nI_1, pS]
  · left
    obtain rfl : S = 12 := by omega
    exact ⟨1, 0, by decide, rfl, rfl⟩
theorem drop_sim {T : Nat} (hT : T ≤ 40) (mk th mc : Int32) (lo : Nat → Int64) : (∃ k x, ¬ k = 0 ∧ L_drop (nI T) mk lo = some (k, nI T, mk, lo) ∧ X4_drop th (nI T) mc = some (x, k, nI T, mc)) ∨ (∃ T', T = T' + 1 ∧ ∃ r : Int32, L_drop (nI T) mk lo = some (0, nI T', 0, vp_updL lo (0 : Int32).toNatClampNeg r.toInt64) ∧ X4_drop th (nI T) mc = some (r, 0, nI T', 0)) := by
  unfold L_drop X3_drop X4_drop X4_fail
  cases T with
  | zero => exact Or.inl ⟨1, 0, by decide, rfl, rfl⟩
  | succ T =>
    right
    refine ⟨T, rfl, nI T, ?_, ?_⟩
    · rw [if_pos (show 0 < nI (T + 1) from nI_lt (a := 0) (b := T + 1) (by omega) (by omega)), xb_r, pS]
    · rw [if_neg (nI_ne0 (by omega) (by omega)), pS]
theorem timer_sim {ct mt : Nat → Int32} (h : ∀ i, i < 4 → ct i = mt i) (mk th mc v1 v2 : Int32) (lo : Nat → Int64) : (∃ k x, ¬ k = 0 ∧ L_setTimerEvent ct mk lo v1 v2 = some (k, ct, mk, lo) ∧ X4_setTimerEvent th mt mc v1 v2 = some (x, k, mt, mc)) ∨ (∃ (r : Int32) (ct' mt' : Nat → Int32), L_setTimerEvent ct mk lo v1 v2 = some (0, ct', 0, vp_updL lo (0 : Int32).toNatClampNeg r.toInt64) ∧ X4_setTimerEvent th mt mc v1 v2 = some (r, 0, mt', 0) ∧ ∀ i, i < 4 → ct' i = mt' i) := by
  unfold L_setTimerEvent X3_setTimerEvent X4_setTimerEvent X4_setTimerEvent_B21 X4_fail
  rcases tw_in v1 (n := 4) (hi := 3) (by decide) (by decide) with ⟨a, b, k, hk, rfl⟩ | ⟨a, b, -⟩
  · rcases tw_event v2 with ⟨a2, b2, -⟩ | ⟨a2, b2, -⟩
    · right
      refine ⟨mt k, upd ct k v2, upd mt k v2, ?_, ?_, fun i hi => ?_⟩
      · rw [show (4 : Int32) = nI 4 from rfl, a, ob_s, if_neg (by decide), a2, ob_s, if_neg (by decide), ix_ok hk (by decide), xb_r, nI_clamp (by omega), h k hk]
      · rw [b, ob_s, if_neg (by decide), b2, ob_s, if_neg (by decide), ix_ok hk (by decide), nI_clamp (by omega)]
      · by_cases e : i = k
        · rw [e, upd_s, upd_s]
        · rw [upd_n e, upd_n e]; exact h i hi
    · left
      refine ⟨1, 0, by decide, ?_, ?_⟩
      · rw [show (4 : Int32) = nI 4 from rfl, a, ob_s, if_neg (by decide), a2, ob_s, if_pos rfl, xb_l, if_pos rfl]
      · rw [b, ob_s, if_neg (by decide), b2, ob_s, if_pos rfl, ob_s]
  · left
    refine ⟨1, 0, by decide, ?_, ?_⟩
    · rw [show (4 : Int32) = nI 4 from rfl, a, ob_s, if_pos rfl, xb_l, if_pos rfl]
    · rw [b, ob_s, if_pos rfl, ob_s]
section AT
variable {S T : Nat} {cf ce cn cv cr cm ca ck c1 c2 mf me mv mr mm mn ms ma fi mfi : Nat → Int32}
/-- a new row behind the others -/
theorem rowR_new (hT : T < 40) (hR : ∀ t, t < T → rowR S t cf ce cn cv cr cm ca ck c1 c2 mf me mv mr mm mn ms ma) {s e x : Nat} (hs : s < S) (he : e < 8) (hx : x < S) {v r n : Int32} (hg : gok v r n) {cv' cr' cm' : Nat → Int32} (h1 : ∀ t, cv' t = upd cv T v t) (h2 : ∀ t, cr' t = upd cr T r t) (h3 : ∀ t, cm' t = upd cm T n t) :
    ∀ t, t < T + 1 → rowR S t (upd cf T (nI s)) (upd ce T (nI e)) (upd cn T (nI x)) cv' cr' cm' (upd ca T 0) ck c1 c2 (upd mf T (nI s)) (upd me T (nI e)) (upd mv T v) (upd mr T r) (upd mm T n) (upd mn T (nI x)) (upd ms T 0) ma := by
  intro t ht
  unfold rowR
  rw [h1, h2, h3]
  by_cases e : t = T
  · subst e
    simp only [upd_s]
    exact ⟨⟨s, hs, rfl, rfl⟩, ⟨_, he, rfl, rfl⟩, ⟨x, hx, rfl, rfl⟩, trivial, trivial, trivial, hg, 0, by omega, rfl, rfl, fun j hj => absurd hj (by omega)⟩
  · simp only [upd_n e]
    exact hR t (by omega)
theorem addT_sim (hS : S ≤ 12) (hT : T ≤ 40) (hR : ∀ t, t < T → rowR S t cf ce cn cv cr cm ca ck c1 c2 mf me mv mr mm mn ms ma) (hf : ∀ q, q < T → fi q = mfi q) (mk th mc v1 v2 v3 v4 v5 v6 : Int32) (lo : Nat → Int64) :
    (∃ k x, ¬ k = 0 ∧ L_addTransition (nI S) (nI T) cf ce cn cv cr cm ca fi mk lo v1 v2 v3 v4 v5 v6 = some (k, nI T, cf, ce, cn, cv, cr, cm, ca, fi, mk, lo) ∧ X4_addTransition th (nI S) (nI T) mf me mv mr mm mn ms mfi mc v1 v2 v3 v4 v5 v6 = some (x, k, nI T, mf, me, mv, mr, mm, mn, ms, mfi, mc)) ∨
    (T < 40 ∧ ∃ (r : Int32) (cf' ce' cn' cv' cr' cm' ca' fi' mf' me' mv' mr' mm' mn' ms' mfi' : Nat → Int32), L_addTransition (nI S) (nI T) cf ce cn cv cr cm ca fi mk lo v1 v2 v3 v4 v5 v6 = some (0, nI (T + 1), cf', ce', cn', cv', cr', cm', ca', fi', 0, vp_updL lo (0 : Int32).toNatClampNeg r.toInt64) ∧ X4_addTransition th (nI S) (nI T) mf me mv mr mm mn ms mfi mc v1 v2 v3 v4 v5 v6 = some (r, 0, nI (T + 1), mf', me', mv', mr', mm', mn', ms', mfi', 0) ∧ (∀ t, t < T + 1 → rowR S t cf' ce' cn' cv' cr' cm' ca' ck c1 c2 mf' me' mv' mr' mm' mn' ms' ma) ∧ ∀ q, q < T + 1 → fi' q = mfi' q) := by
  have hf1 : ∀ q, q < T + 1 → upd fi T 0 q = upd mfi T 0 q := fun q hq => by
    by_cases e : q = T
    · rw [e, upd_s, upd_s]
    · rw [upd_n e, upd_n e]; exact hf q (by omega)
  unfold L_addTransition X3_addTransition X4_addTransition X4_addTransition_B38
  rcases tw_state v1 (n := S) (by omega) with ⟨a1, b1, s, hs, es⟩ | ⟨a1, b1, -⟩
  case inr =>
    exact Or.inl ⟨1, 0, by decide, by simp only [a1, ob_s, if_true, xb_l], by simp only [b1, ob_s, if_true, X4_fail]⟩
  rcases tw_state v6 (n := S) (by omega) with ⟨a6, b6, x, hx, ex⟩ | ⟨a6, b6, -⟩
  case inr =>
    refine Or.inl ⟨1, 0, by decide, by simp only [a1, a6, ob_s, if_true, e10, if_false, xb_l], ?_⟩
    obtain ⟨q2, g2, -⟩ := isEvent_s v2
    obtain ⟨q3, g3, -⟩ := isIn_s v3 (-1) 2
    simp only [b1, b6, g2, g3, ob_s, if_true, X4_fail, e10, if_false, ite_self]
  rcases tw_event v2 with ⟨a2, b2, e, he, ee⟩ | ⟨a2, b2, -⟩
  case inr =>
    exact Or.inl ⟨1, 0, by decide, by simp only [a1, a6, a2, ob_s, if_true, e10, if_false, xb_l], by simp only [b1, b2, ob_s, if_true, X4_fail, e10, if_false]⟩
  by_cases e3 : v3 = -1
  · have g3 : X4_isIn v3 (-1) 2 = some 1 := by rw [e3]; decide
    simp only [a1, a6, a2, b1, b6, b2, g3, ob_s, e10, if_false, if_pos e3, X3_addTransition_B81, X3_addTransition_B115, X4_addTransition_B73]
    by_cases hT4 : T < 40
    · right
      refine ⟨hT4, nI T, _, _, _, _, _, _, _, _, _, _, _, _, _, _, _, _, ?_, ?_, rowR_new (s := s) (e := e) (x := x) (v := -1) (r := 0) (n := 0) hT4 hR hs he hx ⟨Or.inl rfl, Or.inl rfl, by unfold sm; decide⟩ (fun t => rfl) (fun t => rfl) (fun t => rfl), hf1⟩
      · rw [if_pos (show nI T < 40 from nI_lt (b := 40) hT4 (by decide))]
        unfold X1_append X3_addTransition_B177
        simp only [ix_ok hT4 (by decide : 40 < 2 ^ 31), ob_s, nI_clamp (show T < 2 ^ 31 by omega), xb_r, nI_1, es, ee, ex]
      · rw [if_neg (fun z => by have := (nI_eq (b := 40) (by omega) (by decide)).mp z; omega)]
        unfold X4_addTransition_B137 X4_addTransition_B157
        simp only [ix_ok hT4 (by decide : 40 < 2 ^ 31), nI_clamp (show T < 2 ^ 31 by omega), nI_1, pS, es, ee, ex, e3, if_true]
    · obtain rfl : T = 40 := by omega
      left
      refine ⟨3, 0, by decide, ?_, ?_⟩
      · rw [if_neg (by decide), xb_l, if_neg (by decide), if_neg (by decide), if_pos rfl]
      · rw [if_pos (by decide)]; rfl
  · rcases two (A := fun b => X3_isBelow v3 3 = some b) (B := fun b => X4_isIn v3 (-1) 2 = some b) (P := inn v3 3) (below_s v3 (n := 3) (by decide)) (by
        obtain ⟨b, h1, h2⟩ := isIn_s v3 (-1) 2
        refine ⟨b, h1, ?_⟩
        have hz := inn_iff (a := v3) (n := 3) (by omega)
        have m1 : (-1 : Int32).toInt = -1 := by decide
        have m2 : (2 : Int32).toInt = 2 := by decide
        have hne : ¬ v3.toInt = -1 := fun z => e3 (Int32.toInt_inj.mp (by rw [z, m1]))
        rw [m1, m2] at h2
        rcases h2 with ⟨q1, q2⟩ | ⟨q1, q2⟩
        · exact Or.inl ⟨q1, hz.mpr (by omega)⟩
        · exact Or.inr ⟨q1, fun z => q2 (by rw [hz] at z; omega)⟩) with ⟨a3, g3, y, hy, ey⟩ | ⟨a3, g3, -⟩
    case inr =>
      exact Or.inl ⟨1, 0, by decide, by simp only [a1, a6, a2, a3, if_neg e3, ob_s, if_true, e10, if_false, xb_l], by simp only [b1, b2, g3, ob_s, if_true, X4_fail, e10, if_false]⟩
    simp only [a1, a6, a2, a3, b1, b6, b2, g3, ob_s, e10, if_false, if_neg e3, X3_addTransition_B81, X3_addTransition_B115, X4_addTransition_B73, X4_addTransition_B67]
    by_cases h40 : v4 < 0
    · have g4 : X4_isIn v4 0 2 = some 0 := by unfold X4_isIn; rw [if_pos h40]
      exact Or.inl ⟨2, 0, by decide, by rw [if_pos h40, xb_l, if_neg (by decide), if_pos rfl], by rw [g4, ob_s, if_pos rfl]; rfl⟩
    rw [if_neg h40]
    by_cases h42 : 2 < v4
    · have g4 : X4_isIn v4 0 2 = some 0 := by unfold X4_isIn; rw [if_neg h40, if_pos h42]
      exact Or.inl ⟨2, 0, by decide, by rw [if_pos h42, xb_l, if_neg (by decide), if_pos rfl], by rw [g4, ob_s, if_pos rfl]; rfl⟩
    rw [if_neg h42]
    have g4 : X4_isIn v4 0 2 = some 1 := by unfold X4_isIn; rw [if_neg h40, if_neg h42]
    rcases tw_num v5 with ⟨a5, b5, h5⟩ | ⟨a5, b5, -⟩
    case inr =>
      exact Or.inl ⟨2, 0, by decide, by rw [a5, ob_s, if_pos rfl, xb_l, if_neg (by decide), if_pos rfl], by simp only [g4, ob_s, e10, if_false, b5, if_true, X4_fail]⟩
    simp only [a5, b5, g4, ob_s, e10, if_false]
    have hr : v4 = 0 ∨ v4 = 1 ∨ v4 = 2 := by
      obtain ⟨j, hj, ej⟩ := nI_of2 (M := 2) (n := 2) (by decide) h40 (Int32.not_lt.mp h42)
      subst ej
      have : j = 0 ∨ j = 1 ∨ j = 2 := by omega
      rcases this with rfl | rfl | rfl
      · exact Or.inl rfl
      · exact Or.inr (Or.inl rfl)
      · exact Or.inr (Or.inr rfl)
    by_cases hT4 : T < 40
    · right
      refine ⟨hT4, nI T, _, _, _, _, _, _, _, _, _, _, _, _, _, _, _, _, ?_, ?_, rowR_new (s := s) (e := e) (x := x) (v := v3) (r := v4) (n := v5) (cv' := upd (upd cv T (-1)) T v3) (cr' := upd (upd cr T 0) T v4) (cm' := upd (upd cm T 0) T v5) hT4 hR hs he hx ⟨Or.inr ⟨y, hy, ey⟩, hr, h5⟩ (fun t => ?_) (fun t => ?_) (fun t => ?_), hf1⟩
      · rw [if_pos (show nI T < 40 from nI_lt (b := 40) hT4 (by decide))]
        unfold X1_append X1_guard X3_addTransition_B177
        simp only [ix_ok hT4 (by decide : 40 < 2 ^ 31), ob_s, nI_clamp (show T < 2 ^ 31 by omega), xb_r, nI_1, es, ee, ex]
      · rw [if_neg (fun z => by have := (nI_eq (b := 40) (by omega) (by decide)).mp z; omega)]
        unfold X4_addTransition_B137 X4_addTransition_B157
        simp only [ix_ok hT4 (by decide : 40 < 2 ^ 31), if_neg e3, nI_clamp (show T < 2 ^ 31 by omega), nI_1, pS, es, ee, ex]
      all_goals
        by_cases e9 : t = T
        · rw [e9, upd_s, upd_s]
        · rw [upd_n e9, upd_n e9, upd_n e9]
    · obtain rfl : T = 40 := by omega
      left
      refine ⟨3, 0, by decide, ?_, ?_⟩
      · rw [if_neg (by decide), xb_l, if_neg (by decide), if_neg (by decide), if_pos rfl]
      · rw [if_pos (by decide)]; rfl
end AT
