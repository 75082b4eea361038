/-! restart, happen, advance -/
theorem fill_l {an : Nat} {v : Int64} (han : an < 2 ^ 30) : ∀ (n k : Nat) (f : Nat → Int64), k ≤ an → an - k < n → ∃ f' : Nat → Int64, J7_fill_d0a16_L6 an v n f (nI k) (nI an) = some f' ∧ ∀ i, f' i = if k ≤ i ∧ i < an then v else f i := by
  intro n
  induction n with
  | zero => intro k f _ h; omega
  | succ n ih =>
    intro k f hk hn
    show ∃ f', J7_fill_d0a16_B6 an v (J7_fill_d0a16_L6 an v n) f (nI k) (nI an) = some f' ∧ _
    unfold J7_fill_d0a16_B6
    by_cases hka : k = an
    · subst hka
      rw [if_pos (nI_le (Nat.le_refl k) (by omega))]
      exact ⟨f, rfl, fun i => (if_neg (by omega)).symm⟩
    · rw [if_neg (nI_ge (show k < an by omega) (by omega)), ix_ok (show k < an by omega) (by omega), nI_clamp (by omega), nI_1]
      obtain ⟨f', h1, h2⟩ := ih (k + 1) (vp_updL f k v) (by omega) (by omega)
      refine ⟨f', h1, fun i => ?_⟩
      rw [h2 i]
      by_cases e : i = k
      · rw [if_neg (by omega), if_pos (by omega), e, updL_s]
      · rw [updL_n e]
        by_cases q : k + 1 ≤ i ∧ i < an
        · rw [if_pos q, if_pos (by omega)]
        · rw [if_neg q, if_neg (by omega)]
theorem fill_L {fu an : Nat} {v : Int64} {f : Nat → Int64} (han : an < 2 ^ 30) (h : an < fu) : ∃ f' : Nat → Int64, J7_fill_d0a16 fu an f v = some f' ∧ ∀ i, i < an → f' i = v := by
  unfold J7_fill_d0a16
  obtain ⟨f', h1, h2⟩ := fill_l (an := an) (v := v) han fu 0 f (by omega) (by omega)
  exact ⟨f', h1, fun i hi => by rw [h2 i, if_pos ⟨by omega, hi⟩]⟩
theorem rs62 (th st : Int32) (tm v1 : Int64) (mv mr : Nat → Int32) : ∀ (n k : Nat) (mf : Nat → Int32), k ≤ 40 → 40 - k < n → (∀ i, i < k → mf i = 0) → ∃ mf' : Nat → Int32, X4_restart_L62 n th mf st tm mv mr v1 (nI k) = some (v1, th, mf', st, tm, mv, mr, 0, 0) ∧ ∀ i, i < 40 → mf' i = 0 := by
  intro n
  induction n with
  | zero => intro k mf _ h; omega
  | succ n ih =>
    intro k mf hk hn h
    show ∃ mf', X4_restart_B62 (X4_restart_L62 n) th mf st tm mv mr v1 (nI k) = _ ∧ _
    unfold X4_restart_B62 X4_restart_B81
    by_cases e : k = 40
    · subst e
      rw [if_pos (by decide)]
      exact ⟨mf, rfl, h⟩
    · rw [if_neg (show ¬ 40 ≤ nI k from nI_ge (b := 40) (by omega) (by decide)), ix_ok (show k < 40 by omega) (by decide), nI_clamp (by omega), nI_1]
      refine ih (k + 1) (upd mf k 0) (by omega) (by omega) (fun i hi => ?_)
      by_cases ei : i = k
      · rw [ei, upd_s]
      · rw [upd_n ei]; exact h i (by omega)
theorem rs42 {fu : Nat} (hfu : 50 ≤ fu) (th st : Int32) (tm v1 : Int64) (mv mf : Nat → Int32) : ∀ (n k : Nat) (mr : Nat → Int32), k ≤ 4 → 4 - k < n → (∀ i, i < k → mr i = 0) → ∃ mf' mr' : Nat → Int32, X4_restart_L42 fu mf n th st tm mv mr v1 (nI k) = some (v1, th, mf', st, tm, mv, mr', 0, 0) ∧ (∀ i, i < 40 → mf' i = 0) ∧ ∀ i, i < 4 → mr' i = 0 := by
  intro n
  induction n with
  | zero => intro k mr _ h; omega
  | succ n ih =>
    intro k mr hk hn h
    show ∃ mf' mr', X4_restart_B42 fu mf (X4_restart_L42 fu mf n) th st tm mv mr v1 (nI k) = _ ∧ _
    unfold X4_restart_B42
    by_cases e : k = 4
    · subst e
      rw [if_pos (by decide)]
      obtain ⟨mf', h1, h2⟩ := rs62 th st tm v1 mv mr fu 0 mf (by omega) (by omega) (fun i hi => absurd hi (by omega))
      exact ⟨mf', mr, h1, h2, h⟩
    · rw [if_neg (show ¬ 4 ≤ nI k from nI_ge (b := 4) (by omega) (by decide)), ix_ok (show k < 4 by omega) (by decide), nI_clamp (by omega), nI_1]
      refine ih (k + 1) (upd mr k 0) (by omega) (by omega) (fun i hi => ?_)
      by_cases ei : i = k
      · rw [ei, upd_s]
      · rw [upd_n ei]; exact h i (by omega)
theorem rs22 {fu : Nat} (hfu : 50 ≤ fu) (th st : Int32) (tm v1 : Int64) (mf mr : Nat → Int32) : ∀ (n k : Nat) (mv : Nat → Int32), k ≤ 3 → 3 - k < n → (∀ i, i < k → mv i = 0) → ∃ mf' mv' mr' : Nat → Int32, X4_restart_L22 fu mf mr n th st tm mv v1 (nI k) = some (v1, th, mf', st, tm, mv', mr', 0, 0) ∧ (∀ i, i < 40 → mf' i = 0) ∧ (∀ i, i < 3 → mv' i = 0) ∧ ∀ i, i < 4 → mr' i = 0 := by
  intro n
  induction n with
  | zero => intro k mr _ h; omega
  | succ n ih =>
    intro k mv hk hn h
    show ∃ mf' mv' mr', X4_restart_B22 fu mf mr (X4_restart_L22 fu mf mr n) th st tm mv v1 (nI k) = _ ∧ _
    unfold X4_restart_B22
    by_cases e : k = 3
    · subst e
      rw [if_pos (by decide)]
      obtain ⟨mf', mr', h1, h2, h3⟩ := rs42 hfu th st tm v1 mv mf fu 0 mr (by omega) (by omega) (fun i hi => absurd hi (by omega))
      exact ⟨mf', mv, mr', h1, h2, h, h3⟩
    · rw [if_neg (show ¬ 3 ≤ nI k from nI_ge (b := 3) (by omega) (by decide)), ix_ok (show k < 3 by omega) (by decide), nI_clamp (by omega), nI_1]
      refine ih (k + 1) (upd mv k 0) (by omega) (by omega) (fun i hi => ?_)
      by_cases ei : i = k
      · rw [ei, upd_s]
      · rw [upd_n ei]; exact h i (by omega)
theorem restart_sim {fu : Nat} (hfu : 50 ≤ fu) (pr : Int32) (nw : Int64) (em kp ig : Int32) (va : Nat → Int32) (du : Nat → Int64) (fi : Nat → Int32) (th : Int32) (mf : Nat → Int32) (st : Int32) (mv mr : Nat → Int32) (me mi : Int32) :
    ∃ (va' : Nat → Int32) (du' : Nat → Int64) (fi' mf' mv' mr' : Nat → Int32), X3_restart fu pr nw em kp ig va du fi = some (nw, 0, 0, 0, 0, 0, va', du', fi') ∧ X4_restart fu th mf st nw mv mr me mi = some (nw, 0, mf', 0, 0, mv', mr', 0, 0) ∧ (∀ i, i < 3 → va' i = 0) ∧ (∀ i, i < 4 → du' i = -1) ∧ (∀ i, i < 40 → fi' i = 0) ∧ (∀ i, i < 40 → mf' i = 0) ∧ (∀ i, i < 3 → mv' i = 0) ∧ ∀ i, i < 4 → mr' i = 0 := by
  unfold X3_restart X0_begin X4_restart
  obtain ⟨va', a1, a2⟩ := fill_I (fu := fu) (an := 3) (v := 0) (f := va) (by omega) (by omega)
  obtain ⟨du', b1, b2⟩ := fill_L (fu := fu) (an := 4) (v := -1) (f := du) (by omega) (by omega)
  obtain ⟨fi', c1, c2⟩ := fill_I (fu := fu) (an := 40) (v := 0) (f := fi) (by omega) (by omega)
  obtain ⟨mf', mv', mr', d1, d2, d3, d4⟩ := rs22 hfu 0 0 0 nw mf mr fu 0 mv (by omega) (by omega) (fun i hi => absurd hi (by omega))
  refine ⟨va', du', fi', mf', mv', mr', ?_, d1, a2, b2, c2, d2, d3, d4⟩
  rw [a1, ob_s, b1, ob_s, c1, ob_s, ob_s]
section RU
variable {S T fu : Nat} {cf ce cn cv cr cm ca ck c1 c2 mf me mv mr mm mn ms ma ct mt : Nat → Int32}
theorem happen_sim (hT : T ≤ 40) (hfu : 50 ≤ fu) (hR : ∀ t, t < T → rowR S t cf ce cn cv cr cm ca ck c1 c2 mf me mv mr mm mn ms ma) {tm : Nat} (htm : tm < 2 ^ 29) {pr : Int32} {fi mfi : Nat → Int32} {ig : Int32} (hf : ∀ t, t < T → fi t = mfi t) {d : Nat → Nat} {E : Nat} {em kp : Int32} {va : Nat → Int32} {du : Nat → Int64} {ou mva ru : Nat → Int32} {mdu : Nat → Int64} {mem : Int32} {mo : Nat → Int32} (hE : E + 3 < 2 ^ 30) (hX : RX d E em kp va du ou mva ru mdu mem mo) (th ev : Int32) (lo : Nat → Int64) :
    (∃ k x, ¬ k = 0 ∧ L_happen fu (nI T) cf ce cn cv cr cm ca ck c1 c2 pr (lN tm) em kp ig va du ou fi lo ev = some (k, pr, em, kp, ig, va, du, ou, fi, lo) ∧ X4_happen fu th (nI T) mf me mv mr mm mn ms ma mfi pr (lN tm) mva ru mdu mem mo ig ev = some (x, k, mfi, pr, mva, ru, mdu, mem, mo, ig)) ∨
    (∃ (r pr' em' kp' ig' : Int32) (va' : Nat → Int32) (du' : Nat → Int64) (ou' fi' mfi' mva' ru' : Nat → Int32) (mdu' : Nat → Int64) (mem' : Int32) (mo' : Nat → Int32) (d' : Nat → Nat) (E' : Nat), L_happen fu (nI T) cf ce cn cv cr cm ca ck c1 c2 pr (lN tm) em kp ig va du ou fi lo ev = some (0, pr', em', kp', ig', va', du', ou', fi', vp_updL lo (0 : Int32).toNatClampNeg r.toInt64) ∧ X4_happen fu th (nI T) mf me mv mr mm mn ms ma mfi pr (lN tm) mva ru mdu mem mo ig ev = some (r, 0, mfi', pr', mva', ru', mdu', mem', mo', ig') ∧ (∀ t, t < T → fi' t = mfi' t) ∧ RX d' E' em' kp' va' du' ou' mva' ru' mdu' mem' mo' ∧ E' ≤ E + 3 ∧ later tm d d' ru ru') := by
  unfold L_happen X3_happen X4_happen X4_fail
  rcases tw_event ev with ⟨a, b, -⟩ | ⟨a, b, -⟩
  · right
    obtain ⟨r, pr', em', kp', ig', va', du', ou', fi', mfi', mva', ru', mdu', mem', mo', d', E', h1, h2, h3, h4, h5, h6⟩ := react_sim (S := S) hT htm hfu hR (c_present := pr) (c_ignores := ig) hf hE hX ev
    refine ⟨r, pr', em', kp', ig', va', du', ou', fi', mfi', mva', ru', mdu', mem', mo', d', E', ?_, ?_, h3, h4, h5, h6⟩
    · rw [a, ob_s, if_neg (by decide), h1, ob_s, xb_r]
    · rw [b, ob_s, if_neg (by decide), h2, ob_s]
  · left
    refine ⟨1, 0, by decide, ?_, ?_⟩
    · rw [a, ob_s, if_pos rfl, xb_l, if_pos rfl]
    · rw [b, ob_s, if_pos rfl, ob_s]
theorem advance_sim (hT : T ≤ 40) (hfu : 4001 ≤ fu) (hR : ∀ t, t < T → rowR S t cf ce cn cv cr cm ca ck c1 c2 mf me mv mr mm mn ms ma) (hte : ∀ i, i < 4 → ct i = mt i) {tm : Nat} (htm : tm < 2 ^ 28) {pr : Int32} {fi mfi : Nat → Int32} {ig : Int32} (hf : ∀ t, t < T → fi t = mfi t) {d : Nat → Nat} {E : Nat} {em kp : Int32} {va : Nat → Int32} {du : Nat → Int64} {ou mva ru : Nat → Int32} {mdu : Nat → Int64} {mem : Int32} {mo : Nat → Int32} (hE : E < 2 ^ 29) (hX : RX d E em kp va du ou mva ru mdu mem mo) (hd : ∀ i, i < 4 → ru i = 1 → tm < d i) (th v : Int32) (lo : Nat → Int64) :
    (∃ k x, ¬ k = 0 ∧ L_advance fu (nI T) ct cf ce cn cv cr cm ca ck c1 c2 pr (lN tm) em kp ig va du ou fi lo v = some (k, pr, lN tm, em, kp, ig, va, du, ou, fi, lo) ∧ X4_advance fu th mt (nI T) mf me mv mr mm mn ms ma mfi pr (lN tm) mva ru mdu mem mo ig v = some (x, k, mfi, pr, lN tm, mva, ru, mdu, mem, mo, ig)) ∨
    (∃ (g : Nat) (r pr' em' kp' ig' : Int32) (va' : Nat → Int32) (du' : Nat → Int64) (ou' fi' mfi' mva' ru' : Nat → Int32) (mdu' : Nat → Int64) (mem' : Int32) (mo' : Nat → Int32) (d' : Nat → Nat) (E' : Nat), L_advance fu (nI T) ct cf ce cn cv cr cm ca ck c1 c2 pr (lN tm) em kp ig va du ou fi lo v = some (0, pr', lN g, em', kp', ig', va', du', ou', fi', vp_updL lo (0 : Int32).toNatClampNeg r.toInt64) ∧ X4_advance fu th mt (nI T) mf me mv mr mm mn ms ma mfi pr (lN tm) mva ru mdu mem mo ig v = some (r, 0, mfi', pr', lN g, mva', ru', mdu', mem', mo', ig') ∧ g ≤ tm + 1000 ∧ (∀ t, t < T → fi' t = mfi' t) ∧ RX d' E' em' kp' va' du' ou' mva' ru' mdu' mem' mo' ∧ E' ≤ E + 12000 ∧ ∀ i, i < 4 → ru' i = 1 → g < d' i) := by
  unfold L_advance X3_advance X4_advance X4_fail X4_isIn
  by_cases h0 : v < 0
  · rw [if_pos h0, if_pos h0]
    exact Or.inl ⟨1, 0, by decide, by rw [xb_l, if_pos rfl], by rw [ob_s, if_pos rfl, ob_s]⟩
  rw [if_neg h0, if_neg h0]
  by_cases h1 : v ≤ 1000
  · rw [if_pos h1, if_neg (Int32.not_lt.mpr h1), ob_s, if_neg (by decide)]
    right
    obtain ⟨k, hk, rfl⟩ := nI_of2 (M := 1000) (n := 1000) (by decide) h0 h1
    rw [nI_l (by omega), lN_add]
    obtain ⟨x1, x2, x3, x4, x5, x6⟩ := hX
    have hnx := nt_spec (m_dues := mdu) (m_runs := ru) (d := d) (g := tm + k) (by omega) (fun i hi => by
      rcases x2 i hi with ⟨a, -⟩ | ⟨a, -, b, c⟩
      · exact Or.inl a
      · exact Or.inr ⟨a, b, by omega⟩) fu 0 (-1) (Or.inl ⟨rfl, fun i hi => absurd hi (by omega)⟩) (by omega) (by omega)
    obtain ⟨r1, hr1, hI1⟩ := hnx
    have hfd := fd_nt (c_due := du) (m_dues := mdu) (m_runs := ru) (lN (tm + k)) (fun i hi => by
      rcases x2 i hi with ⟨a, b⟩ | ⟨a, b, c, e9⟩
      · exact Or.inl ⟨a, b⟩
      · exact Or.inr ⟨a, by rw [b, c], by rw [c]; exact lN_m1 (by omega)⟩) fu 0 (-1) (Or.inl rfl) (by omega)
    obtain ⟨c', pr', em', kp', ig', va', du', ou', fi', mfi', mva', ru', mdu', mem', mo', d', E', z1, z2, z3, z4, z5, z6⟩ := adv_sim (S := S) (g := tm + k) (fu := fu) hT (by omega) (by omega) hR hte 0 fu 4000 (fun _ => tm) 0 tm d E pr em kp ig va du ou fi mfi mva ru mdu mem mo r1 (lN tm) (lN tm) (by omega) (by omega) (by omega) (by omega) (by omega) (fun i hi => Nat.le_refl _) (fun i hi hr => ⟨hd i hi hr, by have := hd i hi hr; omega⟩) ⟨x1, x2, x3, x4, x5, x6⟩ hf hI1
    refine ⟨tm + k, nI c', pr', em', kp', ig', va', du', ou', fi', mfi', mva', ru', mdu', mem', mo', d', E', ?_, ?_, by omega, z3, z4, by omega, z6⟩
    · unfold X0_goOn X0_firstDue
      rw [nI_l (by omega), lN_add]
      have hfd : X0_firstDue_L5 du (lN (tm + k)) fu (-1) 0 = X4_nextTimer_L5 ru mdu (lN (tm + k)) fu (-1) (nI 0) := hfd
      have z1 : X0_goOn_L18 fu (nI T) ct cf ce cn cv cr cm ca ck c1 c2 fu pr (lN tm) em kp ig va du ou fi (lN (tm + k)) 0 r1 = _ := z1
      rw [hfd, hr1, ob_s, z1, ob_s, xb_r]
    · unfold X4_nextTimer
      have hr1 : X4_nextTimer_L5 ru mdu (lN (tm + k)) fu (-1) 0 = some r1 := hr1
      have z2 : X4_advance_L40 fu mt (nI T) mf me mv mr mm mn ms ma fu 0 mfi pr (lN tm) mva ru mdu mem mo ig (lN (tm + k)) 0 r1 = _ := z2
      rw [hr1, ob_s, z2]
  · rw [if_neg h1, if_pos (Int32.not_le.mp h1)]
    exact Or.inl ⟨1, 0, by decide, by rw [xb_l, if_pos rfl], by rw [ob_s, if_pos rfl, ob_s]⟩
end RU
