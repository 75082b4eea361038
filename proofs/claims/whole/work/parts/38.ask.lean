/-! calls that only answer -/
def qs (L : Option (Int32 × (Nat → Int64))) (M : Option (Int32 × Int32)) (lo : Nat → Int64) : Prop := (∃ k x, ¬ k = 0 ∧ L = some (k, lo) ∧ M = some (x, k)) ∨ ∃ r : Int32, L = some (0, vp_updL lo (0 : Int32).toNatClampNeg r.toInt64) ∧ M = some (r, 0)
theorem value_sim {cv mv : Nat → Int32} (h : ∀ v, v < 3 → cv v = mv v) (th v : Int32) (lo : Nat → Int64) : qs (L_value cv lo v) (X4_value th mv v) lo := by
  unfold L_value X3_value X4_value X4_fail
  rcases tw_in v (n := 3) (hi := 2) (by decide) (by decide) with ⟨a, b, k, hk, rfl⟩ | ⟨a, b, -⟩
  · refine Or.inr ⟨mv k, ?_, ?_⟩
    · rw [show (3 : Int32) = nI 3 from rfl, a, ob_s, if_neg (by decide), ix_ok hk (by decide), xb_r, nI_clamp (by omega), h k hk]
    · rw [b, ob_s, if_neg (by decide), ix_ok hk (by decide), nI_clamp (by omega)]
  · refine Or.inl ⟨1, 0, by decide, ?_, ?_⟩
    · rw [show (3 : Int32) = nI 3 from rfl, a, ob_s, if_pos rfl, xb_l, if_pos rfl]
    · rw [b, ob_s, if_pos rfl, ob_s]
theorem lN_m1 {n : Nat} (h : n < 2 ^ 31) : ¬ lN n = -1 := fun e => by
  have h1 := lN_toInt h
  rw [e] at h1
  have h2 : ((-1 : Int64)).toInt = -1 := by decide
  omega
theorem left_eq {t : Nat} {cd md : Nat → Int64} {mr : Nat → Int32} {d : Nat → Nat} (h : ∀ i, i < 4 → (mr i = 0 ∧ cd i = -1) ∨ (mr i = 1 ∧ cd i = lN (d i) ∧ md i = lN (d i) ∧ d i < 2 ^ 30)) {i : Nat} (hi : i < 4) : ∃ r, X0_ticksLeft (lN t) cd (nI i) = some r ∧ X4_leftOf (lN t) mr md (nI i) = some r := by
  unfold X0_ticksLeft X4_leftOf
  rw [ix_ok hi (by decide), ix_ok hi (by decide), nI_clamp (by omega)]
  rcases h i hi with ⟨a, b⟩ | ⟨a, b, c, e⟩
  · rw [a, b, if_pos ((lg_cmp_eq _ _).mpr rfl), if_pos rfl]
    exact ⟨_, rfl, rfl⟩
  · rw [a, b, c, if_neg (fun z => lN_m1 (by omega) ((lg_cmp_eq _ _).mp z)), if_neg (by decide)]
    exact ⟨_, rfl, rfl⟩
theorem left_sim {t : Nat} {cd md : Nat → Int64} {mr : Nat → Int32} {d : Nat → Nat} (h : ∀ i, i < 4 → (mr i = 0 ∧ cd i = -1) ∨ (mr i = 1 ∧ cd i = lN (d i) ∧ md i = lN (d i) ∧ d i < 2 ^ 30)) (th v : Int32) (lo : Nat → Int64) : qs (L_left (lN t) cd lo v) (X4_left th (lN t) mr md v) lo := by
  unfold L_left X3_left X4_left X4_fail
  rcases tw_in v (n := 4) (hi := 3) (by decide) (by decide) with ⟨a, b, k, hk, rfl⟩ | ⟨a, b, -⟩
  · obtain ⟨r, h1, h2⟩ := left_eq (t := t) h hk
    refine Or.inr ⟨r, ?_, ?_⟩
    · rw [show (4 : Int32) = nI 4 from rfl, a, ob_s, if_neg (by decide), h1, ob_s, xb_r]
    · rw [b, ob_s, if_neg (by decide), h2, ob_s]
  · refine Or.inl ⟨1, 0, by decide, ?_, ?_⟩
    · rw [show (4 : Int32) = nI 4 from rfl, a, ob_s, if_pos rfl, xb_l, if_pos rfl]
    · rw [b, ob_s, if_pos rfl, ob_s]
theorem output_sim {E : Nat} {co mo : Nat → Int32} (hE : E < 2 ^ 30) (h : ∀ k, k < min E 60 → co k = mo k) (th v : Int32) (lo : Nat → Int64) : qs (L_output (nI (min E 60)) co lo v) (X4_output th (nI E) mo v) lo := by
  unfold L_output X3_output X4_output X4_fail
  have e : (if (60 : Int32) < nI E then (60 : Int32) else nI E) = nI (min E 60) := by
    show (if nI 60 < nI E then nI 60 else nI E) = nI (min E 60)
    by_cases h6 : 60 < E
    · rw [if_pos (nI_lt (a := 60) h6 (by omega)), Nat.min_eq_right (by omega)]
    · rw [if_neg (nI_nlt (b := E) (a := 60) (by omega) (by omega)), Nat.min_eq_left (by omega)]
  rw [e]
  have hm : min E 60 ≤ 60 := Nat.min_le_right _ _
  rcases tw_in v (n := min E 60) (hi := nI (min E 60) - 1) (by omega) (pred_ti (by omega)) with ⟨a, b, k, hk, rfl⟩ | ⟨a, b, -⟩
  · refine Or.inr ⟨mo k, ?_, ?_⟩
    · rw [a, ob_s, if_neg (by decide), ix_ok (n := 60) (by omega) (by decide), xb_r, nI_clamp (by omega), h k hk]
    · rw [b, ob_s, if_neg (by decide), ix_ok (n := 60) (by omega) (by decide), nI_clamp (by omega)]
  · refine Or.inl ⟨1, 0, by decide, ?_, ?_⟩
    · rw [a, ob_s, if_pos rfl, xb_l, if_pos rfl]
    · rw [b, ob_s, if_pos rfl, ob_s]
theorem fired_sim {T : Nat} {cf mf : Nat → Int32} (hT : T ≤ 40) (h : ∀ q, q < T → cf q = mf q) (th v : Int32) (lo : Nat → Int64) : qs (L_fired (nI T) cf lo v) (X4_fired th (nI T) mf v) lo := by
  unfold L_fired X3_fired X4_fired X4_fail
  rcases tw_trans v (n := T) (by omega) with ⟨a, b, k, hk, rfl⟩ | ⟨a, b, -⟩
  · refine Or.inr ⟨mf k, ?_, ?_⟩
    · rw [a, ob_s, if_neg (by decide), ix_ok (n := 40) (by omega) (by decide), xb_r, nI_clamp (by omega), h k hk]
    · rw [b, ob_s, if_neg (by decide), ix_ok (n := 40) (by omega) (by decide), nI_clamp (by omega)]
  · refine Or.inl ⟨1, 0, by decide, ?_, ?_⟩
    · rw [a, ob_s, if_pos rfl, xb_l, if_pos rfl]
    · rw [b, ob_s, if_pos rfl, ob_s]
/-! calls that ask the table -/
theorem asks_0 {th v1 v2 : Int32} : X4_asks th 0 v1 v2 = some (0, 1) := rfl
theorem asks_1 {th v : Int32} {n : Nat} (hn : n < 2 ^ 31) : (inn v n → X4_asks th 1 v (nI n) = some (1, 0)) ∧ (¬ inn v n → X4_asks th 1 v (nI n) = some (0, 2)) := by
  unfold X4_asks X4_asks_B26
  rw [if_neg (by decide)]
  have hz := inn_iff (a := v) (n := n) (by omega)
  by_cases h1 : v < 0
  · rw [if_pos h1, if_neg (by decide)]
    rw [ti_lt, ti_0] at h1
    exact ⟨fun h => by rw [hz] at h; omega, fun _ => rfl⟩
  · rw [if_neg h1]
    rw [ti_lt, ti_0] at h1
    by_cases h2 : v < nI n
    · rw [if_pos h2, if_pos rfl]
      rw [ti_lt, nI_toInt hn] at h2
      exact ⟨fun _ => rfl, fun h => absurd (hz.mpr (by omega)) h⟩
    · rw [if_neg h2, if_neg (by decide)]
      rw [ti_lt, nI_toInt hn] at h2
      exact ⟨fun h => by rw [hz] at h; omega, fun _ => rfl⟩
theorem below_t {v : Int32} {n : Nat} (hn : n < 2 ^ 31) : (inn v n ∧ X3_isBelow v (nI n) = some 1) ∨ (¬ inn v n ∧ X3_isBelow v (nI n) = some 0) := by
  obtain ⟨b, h1, ⟨rfl, h2⟩ | ⟨rfl, h2⟩⟩ := below_s v hn
  · exact Or.inl ⟨h2, h1⟩
  · exact Or.inr ⟨h2, h1⟩
theorem need_0 : X3_needTable 0 = some (.inl "java/lang/IllegalStateException") := rfl
theorem need_1 : X3_needTable 1 = some (.inr ()) := rfl
theorem classOf_0 {S : Nat} (cs ms : Nat → Int32) (th v : Int32) (lo : Nat → Int64) : qs (L_classOf (nI S) 0 cs lo v) (X4_classOf th (nI S) 0 ms v) lo := by
  unfold L_classOf X3_classOf X4_classOf
  exact Or.inl ⟨1, 0, by decide, rfl, rfl⟩
theorem classOf_1 {S : Nat} (hS : S ≤ 12) {cs ms : Nat → Int32} (h : ∀ s, s < S → cs s = ms s) (th v : Int32) (lo : Nat → Int64) : qs (L_classOf (nI S) 1 cs lo v) (X4_classOf th (nI S) 1 ms v) lo := by
  unfold L_classOf X3_classOf X4_classOf
  rw [need_1, xb_r]
  rcases below_t (v := v) (n := S) (by omega) with ⟨⟨k, hk, rfl⟩, a⟩ | ⟨n, a⟩
  · refine Or.inr ⟨ms k, ?_, ?_⟩
    · rw [a, ob_s, if_neg (by decide), ix_ok (n := 12) (by omega) (by decide), xb_r, nI_clamp (by omega), h k hk]
    · rw [(asks_1 (by omega)).1 ⟨k, hk, rfl⟩, ob_s, if_neg (by decide), ix_ok (n := 12) (by omega) (by decide), nI_clamp (by omega)]
  · refine Or.inl ⟨2, 0, by decide, ?_, ?_⟩
    · rw [a, ob_s, if_pos rfl, xb_l, if_neg (by decide), if_pos rfl]
    · rw [(asks_1 (by omega)).2 n, ob_s, if_pos rfl]
theorem offset_0 {C C' : Int32} (cs ms : Nat → Int32) (th v : Int32) (lo : Nat → Int64) : qs (L_offset 0 C cs lo v) (X4_offset th 0 C' ms v) lo := by
  unfold L_offset X3_offset X4_offset X3_needClass
  exact Or.inl ⟨1, 0, by decide, rfl, rfl⟩
theorem offset_1 {C : Nat} (hC : C ≤ 12) {cs ms : Nat → Int32} (h : ∀ s, s < C → cs s = ms s) (th v : Int32) (lo : Nat → Int64) : qs (L_offset 1 (nI C) cs lo v) (X4_offset th 1 (nI C) ms v) lo := by
  unfold L_offset X3_offset X4_offset X3_needClass
  rw [need_1, xb_r]
  rcases below_t (v := v) (n := C) (by omega) with ⟨⟨k, hk, rfl⟩, a⟩ | ⟨n, a⟩
  · refine Or.inr ⟨ms k, ?_, ?_⟩
    · rw [a, ob_s, if_neg (by decide), xb_r, ix_ok (n := 12) (by omega) (by decide), xb_r, nI_clamp (by omega), h k hk]
    · rw [(asks_1 (by omega)).1 ⟨k, hk, rfl⟩, ob_s, if_neg (by decide), ix_ok (n := 12) (by omega) (by decide), nI_clamp (by omega)]
  · refine Or.inl ⟨2, 0, by decide, ?_, ?_⟩
    · rw [a, ob_s, if_pos rfl, xb_l, xb_l, if_neg (by decide), if_pos rfl]
    · rw [(asks_1 (by omega)).2 n, ob_s, if_pos rfl]
theorem used_0 {C C' : Int32} (cs ms : Nat → Int32) (th v : Int32) (lo : Nat → Int64) : qs (L_used 0 C cs lo v) (X4_used th 0 C' ms v) lo := by
  unfold L_used X3_used X4_used X3_needClass
  exact Or.inl ⟨1, 0, by decide, rfl, rfl⟩
theorem used_1 {C : Nat} (hC : C ≤ 12) {cs ms : Nat → Int32} (h : ∀ s, s < C → J6_bitCount_0f7a4 (cs s) = some (ms s)) (th v : Int32) (lo : Nat → Int64) : qs (L_used 1 (nI C) cs lo v) (X4_used th 1 (nI C) ms v) lo := by
  unfold L_used X3_used X4_used X3_needClass X2_usedCells
  rw [need_1, xb_r]
  rcases below_t (v := v) (n := C) (by omega) with ⟨⟨k, hk, rfl⟩, a⟩ | ⟨n, a⟩
  · refine Or.inr ⟨ms k, ?_, ?_⟩
    · rw [a, ob_s, if_neg (by decide), xb_r, ix_ok (n := 12) (by omega) (by decide), nI_clamp (by omega), h k hk, ob_s, ob_s, xb_r]
    · rw [(asks_1 (by omega)).1 ⟨k, hk, rfl⟩, ob_s, if_neg (by decide), ix_ok (n := 12) (by omega) (by decide), nI_clamp (by omega)]
  · refine Or.inl ⟨2, 0, by decide, ?_, ?_⟩
    · rw [a, ob_s, if_pos rfl, xb_l, xb_l, if_neg (by decide), if_pos rfl]
    · rw [(asks_1 (by omega)).2 n, ob_s, if_pos rfl]
theorem size_0 {z z' : Int32} (th : Int32) (lo : Nat → Int64) : qs (L_tableSize 0 z lo) (X4_tableSize th 0 z') lo := Or.inl ⟨1, 0, by decide, rfl, rfl⟩
theorem size_1 {z : Int32} (th : Int32) (lo : Nat → Int64) : qs (L_tableSize 1 z lo) (X4_tableSize th 1 z) lo := Or.inr ⟨z, rfl, rfl⟩
theorem owner_0 {z z' : Int32} (cs ms : Nat → Int32) (th v : Int32) (lo : Nat → Int64) : qs (L_owner 0 z cs lo v) (X4_owner th 0 z' ms v) lo := by
  unfold L_owner X3_owner X4_owner
  exact Or.inl ⟨1, 0, by decide, rfl, rfl⟩
theorem owner_1 {z : Nat} (hz : z ≤ 96) {cs ms : Nat → Int32} (h : ∀ s, s < 96 → cs s = ms s) (th v : Int32) (lo : Nat → Int64) : qs (L_owner 1 (nI z) cs lo v) (X4_owner th 1 (nI z) ms v) lo := by
  unfold L_owner X3_owner X4_owner
  rw [need_1, xb_r]
  rcases below_t (v := v) (n := z) (by omega) with ⟨⟨k, hk, rfl⟩, a⟩ | ⟨n, a⟩
  · refine Or.inr ⟨ms k, ?_, ?_⟩
    · rw [a, ob_s, if_neg (by decide), ix_ok (n := 96) (by omega) (by decide), xb_r, nI_clamp (by omega), h k (by omega)]
    · rw [(asks_1 (by omega)).1 ⟨k, hk, rfl⟩, ob_s, if_neg (by decide), ix_ok (n := 120) (by omega) (by decide), nI_clamp (by omega)]
  · refine Or.inl ⟨2, 0, by decide, ?_, ?_⟩
    · rw [a, ob_s, if_pos rfl, xb_l, if_neg (by decide), if_pos rfl]
    · rw [(asks_1 (by omega)).2 n, ob_s, if_pos rfl]
theorem hidden_sim {S T fu : Nat} (hT : T ≤ 40) (hfu : 2100 ≤ fu) {cf ce cv cr cn mf me mv mr mn : Nat → Int32} (h : ∀ t, t < T → cf t = mf t ∧ ce t = me t ∧ cv t = mv t ∧ cr t = mr t ∧ cn t = mn t ∧ gok (mv t) (mr t) (mn t)) (th v : Int32) (lo : Nat → Int64) : (L_isHidden fu (nI T) cf ce cv cr cn lo v = some (1, lo) ∧ ∃ x, X4_isHidden fu th (nI T) mf me mv mr mn v = some (x, 1)) ∨ ∃ b : Int32, (b = 0 ∨ b = 1) ∧ L_isHidden fu (nI T) cf ce cv cr cn lo v = some (0, vp_updL lo (0 : Int32).toNatClampNeg (if b = 0 then (0 : Int64) else 1)) ∧ X4_isHidden fu th (nI T) mf me mv mr mn v = some (b, 0) := by
  unfold L_isHidden X3_isHidden X4_isHidden
  rcases tw_trans v (n := T) (by omega) with ⟨a, b, k, hk, rfl⟩ | ⟨a, b, -⟩
  · right
    rw [a, ob_s, if_neg (by decide), b, ob_s, if_neg (by decide)]
    obtain ⟨x, hx, ix⟩ := behind_c (c_from := cf) (c_event := ce) (c_variable := cv) (c_relation := cr) (c_number := cn) (t := k) (by omega) (fun i hi => by rw [(h i (by omega)).2.2.2.2.1]; exact (h i (by omega)).2.2.2.2.2.2.2) fu 0 (by omega) (by omega)
    obtain ⟨y, hy, iy⟩ := hidden_m (m_froms := mf) (m_events := me) (m_variables := mv) (m_relations := mr) (m_numbers := mn) (t := k) (fu := fu) hfu (by omega) (fun i hi => (h i (by omega)).2.2.2.2.2) fu 0 0 (Or.inl rfl) (by omega) (by omega)
    have exy : x = y := isB_uniq ix iy (by
      constructor
      · rintro ⟨e, e1, e2, e3, e4, e5⟩
        obtain ⟨f1, f2, f3, f4, f5, -⟩ := h e (by omega)
        obtain ⟨g1, g2, g3, g4, g5, -⟩ := h k hk
        refine Or.inr ⟨e, e1, e2, by rw [← f1, ← g1]; exact e3, by rw [← f2, ← g2]; exact e4, ?_⟩
        unfold hid at e5 ⊢
        rw [← f3, ← f4, ← f5, ← g3, ← g4, ← g5]; exact e5
      · rintro (e | ⟨e, e1, e2, e3, e4, e5⟩)
        · exact absurd e (by decide)
        · obtain ⟨f1, f2, f3, f4, f5, -⟩ := h e (by omega)
          obtain ⟨g1, g2, g3, g4, g5, -⟩ := h k hk
          refine ⟨e, e1, e2, by rw [f1, g1]; exact e3, by rw [f2, g2]; exact e4, ?_⟩
          unfold hid at e5 ⊢
          rw [f3, f4, f5, g3, g4, g5]; exact e5)
    subst exy
    refine ⟨x, isB_01 ix, ?_, hy⟩
    unfold X1_isBehindAnother
    have hx : X1_isBehindAnother_L2 cf ce cv cr cn (nI k) fu 0 = some x := hx
    rw [hx, ob_s, isB_nz ix, xb_r]
    rcases isB_01 ix with rfl | rfl
    · rfl
    · rfl
  · left
    rw [a, ob_s, if_pos rfl, xb_l, if_pos rfl, b, ob_s, if_pos rfl]
    refine ⟨rfl, 0, ?_⟩
    obtain ⟨n, rfl⟩ : ∃ n, fu = n + 1 := ⟨fu - 1, by omega⟩
    show X4_isHidden_B21 (n + 1) mf me mv mr mn v (X4_isHidden_L21 (n + 1) mf me mv mr mn v n) 1 0 0 = some (0, 1)
    unfold X4_isHidden_B21
    by_cases hv : v ≤ 0
    · rw [if_pos hv, nz_0]
    · rw [if_neg hv, if_neg (by decide), nz_0]
