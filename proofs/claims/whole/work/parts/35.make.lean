/-! all rows, those with more used cells first -/
theorem cnt_dis {A B : Nat → Bool} (h : ∀ i, A i = true → B i = true → False) : ∀ k, cnt A k + cnt B k ≤ k := by
  intro k
  induction k with
  | zero => exact Nat.le_refl 0
  | succ k ih =>
    unfold cnt
    by_cases a : A k = true
    · rw [if_pos a]
      by_cases b : B k = true
      · exact (h k a b).elim
      · rw [if_neg b]; omega
    · rw [if_neg a]; split <;> omega
theorem cnt_sum {A B D : Nat → Bool} (h : ∀ i, A i = true → B i = true → False) (hd : ∀ i, D i = true ↔ (A i = true ∨ B i = true)) : ∀ k, cnt D k = cnt A k + cnt B k := by
  intro k
  induction k with
  | zero => rfl
  | succ k ih =>
    unfold cnt
    by_cases a : A k = true
    · rw [if_pos a, if_pos ((hd k).mpr (Or.inl a)), if_neg (fun b => h k a b)]; omega
    · rw [if_neg a]
      by_cases b : B k = true
      · rw [if_pos b, if_pos ((hd k).mpr (Or.inr b))]; omega
      · rw [if_neg b, if_neg (fun d => ((hd k).mp d).elim a b)]; omega
theorem cnt_up {A : Nat → Bool} : ∀ (j k : Nat), cnt A k ≤ cnt A (k + j) := by
  intro j k
  induction j with
  | zero => exact Nat.le_refl _
  | succ j ih => show cnt A k ≤ cnt A (k + j) + _; omega
theorem cnt_here {A : Nat → Bool} {c k : Nat} (h : A c = true) (hc : c < k) : cnt A c + 1 ≤ cnt A k := by
  have := cnt_up (A := A) (k - (c + 1)) (c + 1)
  rw [show c + 1 + (k - (c + 1)) = k by omega] at this
  have e : cnt A (c + 1) = cnt A c + 1 := by show cnt A c + (if A c = true then 1 else 0) = _; rw [if_pos h]
  omega
section LY
variable {fu C : Nat} {ub xs us : Nat → Int32} {U bc : Nat → Nat}
theorem lay_in (hfu : 200 ≤ fu) (hC : C ≤ 12) (hub : ∀ c, c < C → ub c = nI (U c) ∧ xs c = nI (U c) ∧ us c = nI (bc c) ∧ J6_bitCount_0f7a4 (nI (U c)) = some (nI (bc c)) ∧ bc c < 9) (v : Nat) (hv : v < 9) (rec21 : Int32 → Int32 → (Nat → Int32) → (Nat → Int32) → Int32 → Option (Int32 × Int32 × (Nat → Int32) × (Nat → Int32))) (rec202 : Int32 → (Nat → Int32) → (Nat → Int32) → (Nat → Int32) → Int32 → (Nat → Int32) → (Nat → Int32) → (Nat → Int32) → (Nat → Int32) → Int32 → Option (Int32 × Int32 × (Nat → Int32) × (Nat → Int32) × (Nat → Int32) × Int32 × (Nat → Int32) × (Nat → Int32) × (Nat → Int32))) (nof rc ap : Nat → Int32) :
    ∀ (n n' j z : Nat) (sz tk msz : Int32) (of mof owc owm : Nat → Int32), j ≤ C → C - j < n → C - j < n' → LN z sz tk msz owc owm → z ≤ 8 * (cnt (fun c => decide (v + 1 ≤ bc c)) C + cnt (fun c => decide (bc c = v)) j) → (∀ c, c < C → (v + 1 ≤ bc c ∨ (bc c = v ∧ c < j)) → of c = mof c) → ∃ (z' : Nat) (sz' tk' msz' : Int32) (of' mof' owc' owm' : Nat → Int32), X2_layRows_L27 fu (nI C) ub rec21 n sz tk of owc (nI v) (nI j) = rec21 sz' tk' of' owc' (nI v + -1) ∧ X4_make_L208 fu rec202 n' (nI C) nof mof us msz owm rc ap xs (nI v) (nI j) = rec202 (nI C) nof mof' us msz' owm' rc ap xs (nI v + -1) ∧ LN z' sz' tk' msz' owc' owm' ∧ z' ≤ 8 * (cnt (fun c => decide (v + 1 ≤ bc c)) C + cnt (fun c => decide (bc c = v)) C) ∧ (∀ c, c < C → (v + 1 ≤ bc c ∨ bc c = v) → of' c = mof' c) := by
  have dis := cnt_dis (A := fun c => decide (v + 1 ≤ bc c)) (B := fun c => decide (bc c = v)) (fun i a b => by rw [decide_eq_true_eq] at a b; omega) C
  intro n
  induction n with
  | zero => intro n' j _ _ _ _ _ _ _ _ _ h; omega
  | succ n ih =>
    intro n' j z sz tk msz of mof owc owm hj hn hn' hL hz ho
    cases n' with
    | zero => omega
    | succ n' =>
      have e1 : X2_layRows_L27 fu (nI C) ub rec21 (n + 1) sz tk of owc (nI v) (nI j) = X2_layRows_B27 fu (nI C) ub rec21 (X2_layRows_L27 fu (nI C) ub rec21 n) sz tk of owc (nI v) (nI j) := rfl
      have e2 : X4_make_L208 fu rec202 (n' + 1) (nI C) nof mof us msz owm rc ap xs (nI v) (nI j) = X4_make_B208 fu rec202 (X4_make_L208 fu rec202 n') (nI C) nof mof us msz owm rc ap xs (nI v) (nI j) := rfl
      rw [e1, e2]
      unfold X2_layRows_B27 X4_make_B208
      by_cases hjC : j = C
      · subst hjC
        rw [if_pos (nI_le (Nat.le_refl j) (by omega)), if_pos (nI_le (Nat.le_refl j) (by omega))]
        exact ⟨z, sz, tk, msz, of, mof, owc, owm, rfl, rfl, hL, hz, fun c hc h => ho c hc (h.imp id (fun q => ⟨q, hc⟩))⟩
      · have hj' : j < C := by omega
        obtain ⟨h1, h2, h3, h4, h5⟩ := hub j hj'
        rw [if_neg (nI_ge hj' (by omega)), if_neg (nI_ge hj' (by omega)), ix_ok (k := j) (n := 12) (by omega) (by decide), nI_clamp (n := j) (by omega), h2, h3]
        unfold X2_usedCells
        rw [ix_ok (k := j) (n := 12) (by omega) (by decide), nI_clamp (n := j) (by omega), h1, h4, ob_s, ob_s]
        have es : cnt (fun c => decide (bc c = v)) (j + 1) = cnt (fun c => decide (bc c = v)) j + (if bc j = v then 1 else 0) := by
          show cnt (fun c => decide (bc c = v)) j + (if decide (bc j = v) = true then 1 else 0) = _
          by_cases q : bc j = v
          · rw [if_pos (decide_eq_true q), if_pos q]
          · rw [if_neg (by rw [decide_eq_true_eq]; exact q), if_neg q]
        by_cases q : bc j = v
        · rw [if_pos (by rw [q]), if_pos (by rw [q])]
          have hh := cnt_here (A := fun c => decide (bc c = v)) (c := j) (k := C) (decide_eq_true q) hj'
          obtain ⟨p, z', sz', tk', msz', owc', owm', y1, y2, y3, y4⟩ := lay_one (fu := fu) (ub := ub) (c := j) (u := U j) (of := of) (mof := mof) hfu (by omega) h1 (by omega) hL hz
          rw [y1, y2, ob_s, ob_s, nI_1]
          exact ih n' (j + 1) z' sz' tk' msz' _ _ owc' owm' (by omega) (by omega) (by omega) y3 (by rw [es, if_pos q]; omega) (fun c hc h => by
            dsimp only
            by_cases ec : c = j
            · rw [ec, upd_s, upd_s]
            · rw [upd_n ec, upd_n ec]
              refine ho c hc ?_
              rcases h with h | ⟨h, h'⟩
              · exact Or.inl h
              · exact Or.inr ⟨h, by omega⟩)
        · have ne : ¬ nI (bc j) = nI v := fun e => q ((nI_eq (by omega) (by omega)).mp e)
          rw [if_neg ne, if_neg ne, nI_1]
          exact ih n' (j + 1) z _ _ _ _ _ _ _ (by omega) (by omega) (by omega) hL (by rw [es, if_neg q]; exact hz) (fun c hc h => by
            refine ho c hc ?_
            rcases h with h | ⟨h, h'⟩
            · exact Or.inl h
            · refine Or.inr ⟨h, ?_⟩
              rcases Nat.lt_or_ge c j with w | w
              · exact w
              · have : c = j := by omega
                rw [this] at h; exact absurd h q)
theorem lay_out (hfu : 200 ≤ fu) (hC : C ≤ 12) (hub : ∀ c, c < C → ub c = nI (U c) ∧ xs c = nI (U c) ∧ us c = nI (bc c) ∧ J6_bitCount_0f7a4 (nI (U c)) = some (nI (bc c)) ∧ bc c < 9) (nof rc ap : Nat → Int32) :
    ∀ (n n' w z : Nat) (sz tk msz : Int32) (of mof owc owm : Nat → Int32), w ≤ 9 → w < n → w < n' → LN z sz tk msz owc owm → z ≤ 8 * cnt (fun c => decide (w ≤ bc c)) C → (∀ c, c < C → w ≤ bc c → of c = mof c) → ∃ (z' : Nat) (sz' tk' msz' : Int32) (of' mof' owc' owm' : Nat → Int32), X2_layRows_L21 fu (nI C) ub n sz tk of owc (nI w + -1) = some (sz', tk', of', owc') ∧ X4_make_L202 fu n' (nI C) nof mof us msz owm rc ap xs (nI w + -1) = some (1, nI C, nof, mof', us, msz', owm', rc, ap) ∧ LN z' sz' tk' msz' owc' owm' ∧ (∀ c, c < C → of' c = mof' c) := by
  intro n
  induction n with
  | zero => intro n' w _ _ _ _ _ _ _ _ _ h; omega
  | succ n ih =>
    intro n' w z sz tk msz of mof owc owm hw hn hn' hL hz ho
    cases n' with
    | zero => omega
    | succ n' =>
      have e1 : X2_layRows_L21 fu (nI C) ub (n + 1) sz tk of owc (nI w + -1) = X2_layRows_B21 fu (nI C) ub (X2_layRows_L21 fu (nI C) ub n) sz tk of owc (nI w + -1) := rfl
      have e2 : X4_make_L202 fu (n' + 1) (nI C) nof mof us msz owm rc ap xs (nI w + -1) = X4_make_B202 fu (X4_make_L202 fu n') (nI C) nof mof us msz owm rc ap xs (nI w + -1) := rfl
      rw [e1, e2]
      unfold X2_layRows_B21 X4_make_B202
      cases w with
      | zero =>
        rw [if_pos (by decide), if_pos (by decide)]
        exact ⟨z, sz, tk, msz, of, mof, owc, owm, rfl, rfl, hL, fun c hc => ho c hc (by omega)⟩
      | succ v =>
        rw [pk_m1, if_neg (nI_pos (by omega)), if_neg (nI_pos (by omega)), show (0 : Int32) = nI 0 from rfl]
        obtain ⟨z', sz', tk', msz', of', mof', owc', owm', y1, y2, y3, y4, y5⟩ := lay_in (fu := fu) hfu hC hub v (by omega) (X2_layRows_L21 fu (nI C) ub n) (X4_make_L202 fu n') nof rc ap fu fu 0 z sz tk msz of mof owc owm (by omega) (by omega) (by omega) hL (by show z ≤ 8 * (_ + 0); omega) (fun c hc h => ho c hc (by omega))
        rw [y1, y2]
        have sum := cnt_sum (A := fun c => decide (v + 1 ≤ bc c)) (B := fun c => decide (bc c = v)) (D := fun c => decide (v ≤ bc c)) (fun i a b => by rw [decide_eq_true_eq] at a b; omega) (fun i => by rw [decide_eq_true_eq, decide_eq_true_eq, decide_eq_true_eq]; omega) C
        exact ih n' v z' sz' tk' msz' of' mof' owc' owm' (by omega) (by omega) (by omega) y3 (by omega) (fun c hc h => y5 c hc (by omega))
end LY
theorem cow_free {ow : Nat → Int32} : ∀ k, (∀ i, i < k → ow i = -1) → cow ow k = 0 := by
  intro k h
  have := cow_tail (ow := ow) k 0 (fun i _ b => h i (by omega))
  rw [Nat.zero_add] at this
  exact this
theorem mfill {fu C : Nat} {of nof us rc ap xs : Nat → Int32} {ts : Int32} :
    ∀ (n k : Nat) (ow : Nat → Int32), k ≤ 120 → 120 - k < n → (∀ i, i < k → ow i = -1) → ∃ ow' : Nat → Int32, X4_make_L180 fu of n (nI C) nof us ts ow rc ap xs (nI k) = X4_make_L202 fu fu (nI C) nof of us ts ow' rc ap xs 8 ∧ ∀ i, i < 120 → ow' i = -1 := by
  intro n
  induction n with
  | zero => intro k _ _ h; omega
  | succ n ih =>
    intro k ow hk hn h0
    show ∃ ow', X4_make_B180 fu of (X4_make_L180 fu of n) (nI C) nof us ts ow rc ap xs (nI k) = _ ∧ _
    unfold X4_make_B180
    by_cases hk1 : k = 120
    · subst hk1
      rw [if_pos (by decide)]
      exact ⟨ow, rfl, h0⟩
    · rw [if_neg (show ¬ (120 : Int32) ≤ nI k from nI_ge (b := 120) (by omega) (by omega)), ix_ok (n := 120) (by omega) (by decide), nI_clamp (by omega), nI_1]
      refine ih (k + 1) _ (by omega) (by omega) (fun i hi => ?_)
      by_cases e : i = k
      · rw [e, upd_s]
      · rw [upd_n e]; exact h0 i (by omega)
