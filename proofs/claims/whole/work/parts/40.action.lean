/-! addAction -/
theorem nI_mul (a b : Nat) : nI a * nI b = nI (a * b) := (Int32.ofNat_mul a b).symm
section AA
variable {S T : Nat} {cf ce cn cv cr cm ca ck c1 c2 mf me mv mr mm mn ms ma : Nat → Int32}
theorem num_n {a : Int32} (h : 1 ≤ a.toInt) (h2 : a.toInt ≤ 1000) : ∃ n, 1 ≤ n ∧ n ≤ 1000 ∧ a = nI n := by
  obtain ⟨j, hj, rfl⟩ := nI_of (x := a) (fun z => by rw [ti_lt, ti_0] at z; omega)
  rw [nI_toInt hj] at h h2
  exact ⟨j, by omega, by omega, rfl⟩
theorem action_s (mc v1 v2 v3 v4 : Int32) : ∃ b, (b = 0 ∨ b = 1) ∧ X3_isAction v2 v3 v4 = some b ∧ (if v2 = (0 : Int32) then (X4_addAction_B28 ms ma mc v1 v2 v3 v4 (0 : Int32)) else (if v2 = (1 : Int32) then (X4_addAction_B28 ms ma mc v1 v2 v3 v4 (0 : Int32)) else (if v2 = (2 : Int32) then (((X4_isIn v3 (0 : Int32) (3 : Int32))).bind fun x61 => if x61 = (0 : Int32) then (X4_addAction_B121 ms ma mc v1 v2 v3 v4 (0 : Int32) (0 : Int32)) else (((X4_isIn v4 (1 : Int32) (1000 : Int32))).bind fun x73 => if x73 = (0 : Int32) then (X4_addAction_B121 ms ma mc v1 v2 v3 v4 (0 : Int32) (0 : Int32)) else (X4_addAction_B121 ms ma mc v1 v2 v3 v4 (0 : Int32) (1 : Int32)))) else (if v2 = (3 : Int32) then (((X4_isIn v3 (0 : Int32) (3 : Int32))).bind fun x95 => X4_addAction_B121 ms ma mc v1 v2 v3 v4 (0 : Int32) x95) else (if v2 = (4 : Int32) then (((X4_isIn v3 (0 : Int32) (99 : Int32))).bind fun x110 => if x110 = (0 : Int32) then (X4_addAction_B120 ms ma mc v1 v2 v3 v4 (0 : Int32)) else (X4_addAction_B121 ms ma mc v1 v2 v3 v4 (0 : Int32) (1 : Int32))) else (X4_addAction_B120 ms ma mc v1 v2 v3 v4 (0 : Int32))))))) = X4_addAction_B121 ms ma mc v1 v2 v3 v4 0 b ∧
    (b = 1 → aok v2 v3 (if 2 < v2 then 0 else v4) ∧ (if v2 = 3 then (0 : Int32) else if v2 = 4 then 0 else v4) = (if 2 < v2 then 0 else v4)) := by
  unfold X3_isAction X3_isAction_B36 X4_addAction_B28 X4_addAction_B120
  by_cases k0 : v2 = 0
  · subst k0
    simp only [if_true]
    rcases tw_in v3 (n := 3) (hi := 2) (by decide) (by decide) with ⟨a, b, h3⟩ | ⟨a, b, -⟩
    · have a : X3_isBelow v3 3 = some 1 := a
      rcases tw_num v4 with ⟨a4, b4, h4⟩ | ⟨a4, b4, -⟩
      · simp only [a, b, a4, b4, ob_s, e10, if_false]
        exact ⟨1, Or.inr rfl, rfl, rfl, fun _ => ⟨Or.inl ⟨rfl, h3, h4⟩, rfl⟩⟩
      · simp only [a, b, a4, b4, ob_s, e10, if_false, if_true]
        exact ⟨0, Or.inl rfl, rfl, rfl, fun z => absurd z (by decide)⟩
    · have a : X3_isBelow v3 3 = some 0 := a
      simp only [a, b, ob_s, if_true]
      exact ⟨0, Or.inl rfl, rfl, rfl, fun z => absurd z (by decide)⟩
  rw [if_neg k0, if_neg k0]
  by_cases k1 : v2 = 1
  · subst k1
    simp only [if_true]
    rcases tw_in v3 (n := 3) (hi := 2) (by decide) (by decide) with ⟨a, b, h3⟩ | ⟨a, b, -⟩
    · have a : X3_isBelow v3 3 = some 1 := a
      rcases tw_num v4 with ⟨a4, b4, h4⟩ | ⟨a4, b4, -⟩
      · simp only [a, b, a4, b4, ob_s, e10, if_false]
        exact ⟨1, Or.inr rfl, rfl, rfl, fun _ => ⟨Or.inr (Or.inl ⟨rfl, h3, h4⟩), rfl⟩⟩
      · simp only [a, b, a4, b4, ob_s, e10, if_false, if_true]
        exact ⟨0, Or.inl rfl, rfl, rfl, fun z => absurd z (by decide)⟩
    · have a : X3_isBelow v3 3 = some 0 := a
      simp only [a, b, ob_s, if_true]
      exact ⟨0, Or.inl rfl, rfl, rfl, fun z => absurd z (by decide)⟩
  rw [if_neg k1, if_neg k1]
  by_cases k2 : v2 = 2
  · subst k2
    simp only [if_true]
    rcases tw_in v3 (n := 4) (hi := 3) (by decide) (by decide) with ⟨a, b, h3⟩ | ⟨a, b, -⟩
    · have a : X3_isBelow v3 4 = some 1 := a
      simp only [a, b, ob_s, e10, if_false]
      unfold X4_isIn
      by_cases q1 : v4 < 1
      · rw [if_pos q1]
        exact ⟨0, Or.inl rfl, rfl, rfl, fun z => absurd z (by decide)⟩
      · rw [if_neg q1]
        by_cases q2 : 1000 < v4
        · rw [if_pos q2]
          exact ⟨0, Or.inl rfl, rfl, rfl, fun z => absurd z (by decide)⟩
        · rw [if_neg q2]
          rw [ti_lt, ti_1] at q1
          rw [ti_lt, ti_K] at q2
          exact ⟨1, Or.inr rfl, rfl, rfl, fun _ => ⟨Or.inr (Or.inr (Or.inl ⟨rfl, h3, num_n (by rw [if_neg (by decide)]; omega) (by rw [if_neg (by decide)]; omega)⟩)), rfl⟩⟩
    · have a : X3_isBelow v3 4 = some 0 := a
      simp only [a, b, ob_s, if_true]
      exact ⟨0, Or.inl rfl, rfl, rfl, fun z => absurd z (by decide)⟩
  rw [if_neg k2, if_neg k2]
  by_cases k3 : v2 = 3
  · subst k3
    simp only [if_true]
    rcases tw_in v3 (n := 4) (hi := 3) (by decide) (by decide) with ⟨a, b, h3⟩ | ⟨a, b, -⟩
    · have a : X3_isBelow v3 4 = some 1 := a
      simp only [a, b, ob_s, nz_1]
      exact ⟨1, Or.inr rfl, rfl, rfl, fun _ => ⟨Or.inr (Or.inr (Or.inr (Or.inl ⟨rfl, h3⟩))), rfl⟩⟩
    · have a : X3_isBelow v3 4 = some 0 := a
      simp only [a, b, ob_s, nz_0]
      exact ⟨0, Or.inl rfl, rfl, rfl, fun z => absurd z (by decide)⟩
  rw [if_neg k3, if_neg k3]
  by_cases k4 : v2 = 4
  · subst k4
    simp only [if_true]
    unfold X4_isIn
    by_cases q1 : v3 < 0
    · rw [if_pos q1]
      exact ⟨0, Or.inl rfl, rfl, rfl, fun z => absurd z (by decide)⟩
    · rw [if_neg q1]
      by_cases q2 : 99 < v3
      · rw [if_pos q2]
        exact ⟨0, Or.inl rfl, rfl, rfl, fun z => absurd z (by decide)⟩
      · rw [if_neg q2]
        exact ⟨1, Or.inr rfl, rfl, rfl, fun _ => ⟨Or.inr (Or.inr (Or.inr (Or.inr rfl))), rfl⟩⟩
  rw [if_neg k4, if_neg k4]
  exact ⟨0, Or.inl rfl, rfl, rfl, fun z => absurd z (by decide)⟩
theorem addA_sim (hT : T ≤ 40) (hR : ∀ t, t < T → rowR S t cf ce cn cv cr cm ca ck c1 c2 mf me mv mr mm mn ms ma) (mk th mc v1 v2 v3 v4 : Int32) (lo : Nat → Int64) :
    (∃ k x, ¬ k = 0 ∧ L_addAction (nI T) ca ck c1 c2 mk lo v1 v2 v3 v4 = some (k, ca, ck, c1, c2, mk, lo) ∧ X4_addAction th (nI T) ms ma mc v1 v2 v3 v4 = some (x, k, ms, ma, mc)) ∨
    (∃ (r : Int32) (ca' ck' c1' c2' ms' ma' : Nat → Int32), L_addAction (nI T) ca ck c1 c2 mk lo v1 v2 v3 v4 = some (0, ca', ck', c1', c2', 0, vp_updL lo (0 : Int32).toNatClampNeg r.toInt64) ∧ X4_addAction th (nI T) ms ma mc v1 v2 v3 v4 = some (r, 0, ms', ma', 0) ∧ ∀ t, t < T → rowR S t cf ce cn cv cr cm ca' ck' c1' c2' mf me mv mr mm mn ms' ma') := by
  unfold L_addAction X3_addAction X4_addAction
  rcases tw_trans v1 (n := T) (by omega) with ⟨a1, b1, t, ht, rfl⟩ | ⟨a1, b1, -⟩
  case inr =>
    exact Or.inl ⟨1, 0, by decide, by simp only [a1, ob_s, if_true, xb_l], by simp only [b1, ob_s, if_true, X4_fail]⟩
  obtain ⟨b, hb, q1, q2, q3⟩ := action_s (ms := ms) (ma := ma) mc (nI t) v2 v3 v4
  rw [a1, b1, ob_s, ob_s, if_neg (by decide : ¬ (1 : Int32) = 0), q1, q2, ob_s]
  unfold X4_addAction_B121
  rcases hb with rfl | rfl
  · exact Or.inl ⟨2, 0, by decide, by rw [if_pos rfl, xb_l, if_neg (by decide), if_pos rfl], by rw [if_pos rfl]; rfl⟩
  obtain ⟨hok, hw⟩ := q3 rfl
  obtain ⟨r1, r2, r3, r4, r5, r6, r7, k, hk, e1, e2, r8⟩ := hR t ht
  have ct : (nI t).toNatClampNeg = t := nI_clamp (by omega)
  simp only [e10, if_false, ix_ok (show t < 40 by omega) (by decide : 40 < 2 ^ 31), ct, e1, e2]
  by_cases hk3 : k = 3
  · subst hk3
    exact Or.inl ⟨3, 0, by decide, by rw [if_neg (by decide), xb_l, if_neg (by decide), if_neg (by decide), if_pos rfl], by rw [if_pos (by decide)]; rfl⟩
  have hk2 : k < 3 := by omega
  right
  have i1 : (3 : Int32) * nI t + nI k = nI (3 * t + k) := by rw [i3, nI_mul, nI_add]
  have i2' : (3 : Int32) * nI (3 * t + k) = nI (3 * (3 * t + k)) := by rw [i3, nI_mul]
  refine ⟨nI (k + 1), upd ca t (nI (k + 1)), upd ck (3 * t + k) v2, upd c1 (3 * t + k) v3, upd c2 (3 * t + k) (if 2 < v2 then 0 else v4), upd ms t (nI (k + 1)), upd (upd (upd ma (3 * (3 * t + k)) v2) (3 * (3 * t + k) + 1) v3) (3 * (3 * t + k) + 2) (if 2 < v2 then 0 else v4), ?_, ?_, ?_⟩
  · rw [if_pos (show nI k < 3 from nI_lt (b := 3) hk2 (by decide))]
    unfold X1_appendAction X1_appendAction_B50
    simp only [ix_ok (show t < 40 by omega) (by decide : 40 < 2 ^ 31), ct, e1, i1, ix_ok (show 3 * t + k < 120 by omega) (by decide : 120 < 2 ^ 31), nI_clamp (show 3 * t + k < 2 ^ 31 by omega), nI_1, upd_s]
    rw [← hw]
    by_cases w3 : v2 = 3
    · simp only [if_pos w3, ob_s, xb_r]
    · by_cases w4 : v2 = 4
      · simp only [if_neg w3, if_pos w4, ob_s, xb_r]
      · simp only [if_neg w3, if_neg w4, ob_s, xb_r]
  · rw [if_neg (show ¬ nI k = 3 from fun z => hk3 ((nI_eq (b := 3) (by omega) (by decide)).mp z))]
    unfold X4_addAction_B201
    rw [i1, i2', nI_1, i2, nI_add]
    simp only [ix_ok (show t < 40 by omega) (by decide : 40 < 2 ^ 31), ct, e2, ix_ok (show 3 * (3 * t + k) < 360 by omega) (by decide : 360 < 2 ^ 31), ix_ok (show 3 * (3 * t + k) + 1 < 360 by omega) (by decide : 360 < 2 ^ 31), ix_ok (show 3 * (3 * t + k) + 2 < 360 by omega) (by decide : 360 < 2 ^ 31), nI_clamp (show 3 * (3 * t + k) < 2 ^ 31 by omega), nI_clamp (show 3 * (3 * t + k) + 1 < 2 ^ 31 by omega), nI_clamp (show 3 * (3 * t + k) + 2 < 2 ^ 31 by omega), nI_1, upd_s]
    by_cases w2 : nI 2 < v2
    · rw [if_pos w2, if_pos w2]
    · rw [if_neg w2, if_neg w2]
  · intro u hu
    unfold rowR
    obtain ⟨s1, s2, s3, s4, s5, s6, s7, n, hn, f1, f2, s8⟩ := hR u hu
    refine ⟨s1, s2, s3, s4, s5, s6, s7, ?_⟩
    by_cases eu : u = t
    · subst eu
      obtain rfl : k = n := (nI_eq (by omega) (by omega)).mp (e1.symm.trans f1)
      refine ⟨k + 1, by omega, upd_s, upd_s, fun j hj => ?_⟩
      by_cases ej : j = k
      · subst ej
        rw [upd_n (show ¬ 3 * (3 * u + j) = 3 * (3 * u + j) + 2 by omega), upd_n (show ¬ 3 * (3 * u + j) = 3 * (3 * u + j) + 1 by omega), upd_n (show ¬ 3 * (3 * u + j) + 1 = 3 * (3 * u + j) + 2 by omega)]
        simp only [upd_s]
        exact ⟨trivial, trivial, trivial, hok⟩
      · rw [upd_n (show ¬ 3 * (3 * u + j) = 3 * (3 * u + k) + 2 by omega), upd_n (show ¬ 3 * (3 * u + j) = 3 * (3 * u + k) + 1 by omega), upd_n (show ¬ 3 * (3 * u + j) = 3 * (3 * u + k) by omega), upd_n (show ¬ 3 * (3 * u + j) + 1 = 3 * (3 * u + k) + 2 by omega), upd_n (show ¬ 3 * (3 * u + j) + 1 = 3 * (3 * u + k) + 1 by omega), upd_n (show ¬ 3 * (3 * u + j) + 1 = 3 * (3 * u + k) by omega), upd_n (show ¬ 3 * (3 * u + j) + 2 = 3 * (3 * u + k) + 2 by omega), upd_n (show ¬ 3 * (3 * u + j) + 2 = 3 * (3 * u + k) + 1 by omega), upd_n (show ¬ 3 * (3 * u + j) + 2 = 3 * (3 * u + k) by omega)]
        simp only [upd_n (show ¬ 3 * u + j = 3 * u + k by omega)]
        exact s8 j (by omega)
    · refine ⟨n, hn, by rw [upd_n eu]; exact f1, by rw [upd_n eu]; exact f2, fun j hj => ?_⟩
      rw [upd_n (show ¬ 3 * (3 * u + j) = 3 * (3 * t + k) + 2 by omega), upd_n (show ¬ 3 * (3 * u + j) = 3 * (3 * t + k) + 1 by omega), upd_n (show ¬ 3 * (3 * u + j) = 3 * (3 * t + k) by omega), upd_n (show ¬ 3 * (3 * u + j) + 1 = 3 * (3 * t + k) + 2 by omega), upd_n (show ¬ 3 * (3 * u + j) + 1 = 3 * (3 * t + k) + 1 by omega), upd_n (show ¬ 3 * (3 * u + j) + 1 = 3 * (3 * t + k) by omega), upd_n (show ¬ 3 * (3 * u + j) + 2 = 3 * (3 * t + k) + 2 by omega), upd_n (show ¬ 3 * (3 * u + j) + 2 = 3 * (3 * t + k) + 1 by omega), upd_n (show ¬ 3 * (3 * u + j) + 2 = 3 * (3 * t + k) by omega)]
      simp only [upd_n (show ¬ 3 * u + j = 3 * t + k by omega)]
      exact s8 j hj
end AA
