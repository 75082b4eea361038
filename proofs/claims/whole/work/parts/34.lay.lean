/-! rows are laid into the line -/
def ubt (u e : Nat) : Prop := ¬ ((nI u >>> (nI e &&& 31)) &&& (1 : Int32)) = 0
def fre (ow : Nat → Int32) (u at_ : Nat) : Prop := ∀ e, e < 8 → ubt u e → ow (at_ + e) = -1
theorem isUsed_c {ub : Nat → Int32} {c u e : Nat} (hc : c < 12) (hu : ub c = nI u) : ∃ b, X2_isUsed ub (nI c) (nI e) = some b ∧ isB b (ubt u e) := by
  unfold X2_isUsed ubt
  rw [ix_ok hc (by decide), nI_clamp (by omega), hu]
  by_cases h : ((nI u >>> (nI e &&& 31)) &&& (1 : Int32)) = 0
  · rw [if_pos h]; exact ⟨0, rfl, Or.inr ⟨rfl, fun q => q h⟩⟩
  · rw [if_neg h]; exact ⟨1, rfl, Or.inl ⟨rfl, h⟩⟩
theorem free_c {ub ow : Nat → Int32} {c u a : Nat} (hc : c < 12) (hu : ub c = nI u) (ha : a < 88) :
    ∀ (n e : Nat), e ≤ 8 → 8 - e < n → ∃ b, X2_isFree_L2 ub ow (nI c) (nI a) n (nI e) = some b ∧ isB b (∀ q, e ≤ q → q < 8 → ubt u q → ow (a + q) = -1) := by
  intro n
  induction n with
  | zero => intro e _ h; omega
  | succ n ih =>
    intro e he hn
    show ∃ b, X2_isFree_B2 ub ow (nI c) (nI a) (X2_isFree_L2 ub ow (nI c) (nI a) n) (nI e) = some b ∧ _
    unfold X2_isFree_B2
    by_cases he8 : e = 8
    · subst he8
      rw [if_pos (by decide)]
      exact ⟨1, rfl, Or.inl ⟨rfl, fun q a b => absurd a (by omega)⟩⟩
    · rw [if_neg (show ¬ (8 : Int32) ≤ nI e from nI_ge (b := 8) (by omega) (by omega))]
      obtain ⟨b, hb, w⟩ := isUsed_c (ub := ub) (e := e) hc hu
      obtain ⟨b', hb', w'⟩ := ih (e + 1) (by omega) (by omega)
      have next : (ubt u e → ow (a + e) = -1) → isB b' (∀ q, e ≤ q → q < 8 → ubt u q → ow (a + q) = -1) := by
        intro h
        rcases w' with ⟨p, z⟩ | ⟨p, z⟩
        · refine Or.inl ⟨p, fun q x y v => ?_⟩
          by_cases eq : q = e
          · rw [eq] at v ⊢; exact h v
          · exact z q (by omega) y v
        · exact Or.inr ⟨p, fun y => z (fun q x y' v => y q (by omega) y' v)⟩
      rw [hb, ob_s, nI_1]
      rcases w with ⟨p, z⟩ | ⟨p, z⟩
      · rw [p, if_neg (by decide : ¬ (1 : Int32) = 0), nI_add, ix_ok (n := 96) (by omega) (by decide), nI_clamp (by omega)]
        by_cases h : ow (a + e) = -1
        · rw [if_pos h]
          exact ⟨b', hb', next (fun _ => h)⟩
        · rw [if_neg h]
          exact ⟨0, rfl, Or.inr ⟨rfl, fun y => h (y e (Nat.le_refl e) (by omega) z)⟩⟩
      · rw [if_pos p]
        exact ⟨b', hb', next (fun y => absurd y z)⟩
theorem fits_m {ow : Nat → Int32} {u a : Nat} (ha : a ≤ 100) :
    ∀ (n e : Nat) (v3 : Int32), (v3 = 0 ∨ v3 = 1) → e ≤ 8 → 8 - e < n → ∃ b, X4_fits_L5 ow (nI u) (nI a) n v3 (nI e) = some b ∧ isB b (v3 = 1 ∧ ∀ q, e ≤ q → q < 8 → ubt u q → ow (a + q) = -1) := by
  intro n
  induction n with
  | zero => intro e _ _ _ h; omega
  | succ n ih =>
    intro e v3 h3 he hn
    show ∃ b, X4_fits_B5 ow (nI u) (nI a) (X4_fits_L5 ow (nI u) (nI a) n) v3 (nI e) = some b ∧ _
    unfold X4_fits_B5
    by_cases he8 : e = 8
    · subst he8
      rw [if_pos (by decide)]
      rcases h3 with q | q
      · rw [q, nz_0]; exact ⟨0, rfl, Or.inr ⟨rfl, fun y => absurd y.1 (by decide)⟩⟩
      · rw [q, nz_1]; exact ⟨1, rfl, Or.inl ⟨rfl, rfl, fun q a b => absurd a (by omega)⟩⟩
    · rw [if_neg (show ¬ (8 : Int32) ≤ nI e from nI_ge (b := 8) (by omega) (by omega)), nI_1]
      obtain ⟨b0, hb0, w0⟩ := ih (e + 1) 0 (Or.inl rfl) (by omega) (by omega)
      obtain ⟨b1, hb1, w1⟩ := ih (e + 1) 1 (Or.inr rfl) (by omega) (by omega)
      have z0 : b0 = 0 := by
        rcases w0 with ⟨-, q, -⟩ | ⟨q, -⟩
        · exact absurd q (by decide)
        · exact q
      rcases h3 with q | q
      · rw [if_pos q]
        exact ⟨b0, hb0, Or.inr ⟨z0, fun y => absurd (q.symm.trans y.1) (by decide)⟩⟩
      · rw [q, if_neg (by decide : ¬ (1 : Int32) = 0)]
        have next : (ubt u e → ow (a + e) = -1) → isB b1 ((1 : Int32) = 1 ∧ ∀ q, e ≤ q → q < 8 → ubt u q → ow (a + q) = -1) := by
          intro h
          rcases w1 with ⟨p, -, z⟩ | ⟨p, z⟩
          · refine Or.inl ⟨p, rfl, fun q x y v => ?_⟩
            by_cases eq : q = e
            · rw [eq] at v ⊢; exact h v
            · exact z q (by omega) y v
          · exact Or.inr ⟨p, fun y => z ⟨rfl, fun q x y' v => y.2 q (by omega) y' v⟩⟩
        by_cases hu : ((nI u >>> (nI e &&& 31)) &&& (1 : Int32)) = 0
        · rw [if_pos hu]
          exact ⟨b1, hb1, next (fun y => absurd hu y)⟩
        · rw [if_neg hu, nI_add, ix_ok (n := 120) (by omega) (by decide), nI_clamp (by omega)]
          by_cases h : ow (a + e) = -1
          · rw [if_pos h]
            exact ⟨b1, hb1, next (fun _ => h)⟩
          · rw [if_neg h]
            exact ⟨b0, hb0, Or.inr ⟨z0, fun y => h (y.2 e (Nat.le_refl e) (by omega) hu)⟩⟩
/-- the place where a row is laid: the first that is free -/
theorem find_at {fu : Nat} {ub owc owm : Nat → Int32} {c u m : Nat} (hfu : 200 ≤ fu) (hc : c < 12) (hu : ub c = nI u) (hm : m ≤ 11) (heq : ∀ k, k < 96 → owc k = owm k) (hfr : ∀ k, 8 * m ≤ k → k < 96 → owc k = -1) (sz tk msz : Int32) (of mof : Nat → Int32) :
    ∀ (n n' a : Nat), a ≤ 8 * m → 8 * m - a < n → 8 * m - a < n' → ∃ p, p ≤ 8 * m ∧ fre owc u p ∧ X2_layRow_L2 fu sz tk ub of owc (nI c) n (nI a) = X2_layRow_B23 fu sz tk ub of owc (nI c) (nI p) ∧ X4_lay_L2 fu mof msz owm (nI c) (nI u) n' (nI a) = X4_lay_B17 fu mof msz owm (nI c) (nI u) (nI p) := by
  intro n
  induction n with
  | zero => intro n' a _ h; omega
  | succ n ih =>
    intro n' a ha hn hn'
    cases n' with
    | zero => omega
    | succ n' =>
      have e1 : X2_layRow_L2 fu sz tk ub of owc (nI c) (n + 1) (nI a) = X2_layRow_B2 fu sz tk ub of owc (nI c) (X2_layRow_L2 fu sz tk ub of owc (nI c) n) (nI a) := rfl
      have e2 : X4_lay_L2 fu mof msz owm (nI c) (nI u) (n' + 1) (nI a) = X4_lay_B2 fu mof msz owm (nI c) (nI u) (X4_lay_L2 fu mof msz owm (nI c) (nI u) n') (nI a) := rfl
      rw [e1, e2]
      unfold X2_layRow_B2 X4_lay_B2 X2_isFree X4_fits
      rw [show (0 : Int32) = nI 0 from rfl]
      obtain ⟨bm, hbm, wm⟩ := fits_m (ow := owm) (u := u) (a := a) (by omega) fu 0 1 (Or.inr rfl) (by omega) (by omega)
      rw [hbm, ob_s]
      have fiff : (∀ q, 0 ≤ q → q < 8 → ubt u q → owm (a + q) = -1) ↔ fre owc u a := by
        constructor
        · intro h e he hh; rw [heq _ (by omega)]; exact h e (by omega) he hh
        · intro h e _ he hh; rw [← heq _ (by omega)]; exact h e he hh
      by_cases hf : fre owc u a
      · have m1 : bm = 1 := by
          rcases wm with ⟨p, -⟩ | ⟨-, z⟩
          · exact p
          · exact absurd ⟨rfl, fiff.mpr hf⟩ z
        refine ⟨a, ha, hf, ?_, ?_⟩
        · by_cases h88 : (88 : Int32) ≤ nI a
          · rw [if_pos h88]
          · rw [if_neg h88]
            have ha88 : a < 88 := Nat.lt_of_not_le (fun q => h88 (nI_le (a := 88) q (by omega)))
            obtain ⟨bc, hbc, wc⟩ := free_c (ub := ub) (ow := owc) hc hu ha88 fu 0 (by omega) (by omega)
            rw [hbc, ob_s]
            have c1 : bc = 1 := by
              rcases wc with ⟨p, -⟩ | ⟨-, z⟩
              · exact p
              · exact absurd (fun q _ h h' => hf q h h') z
            rw [c1, if_neg (by decide)]
        · rw [m1, if_neg (by decide)]
      · have m0 : bm = 0 := by
          rcases wm with ⟨-, -, z⟩ | ⟨p, -⟩
          · exact absurd (fiff.mp z) hf
          · exact p
        have ham : a < 8 * m := by
          rcases Nat.lt_or_ge a (8 * m) with q | q
          · exact q
          · exact absurd (fun e he _ => hfr (a + e) (by omega) (by omega)) hf
        rw [if_neg (show ¬ (88 : Int32) ≤ nI a from nI_ge (b := 88) (by omega) (by omega))]
        obtain ⟨bc, hbc, wc⟩ := free_c (ub := ub) (ow := owc) hc hu (show a < 88 by omega) fu 0 (by omega) (by omega)
        have c0 : bc = 0 := by
          rcases wc with ⟨-, z⟩ | ⟨p, -⟩
          · exact absurd (fun e he hh => z e (by omega) he hh) hf
          · exact p
        rw [hbc, ob_s, if_pos (show bc = nI 0 from c0), if_pos (show bm = nI 0 from m0), nI_1]
        exact ih n' (a + 1) (by omega) (by omega) (by omega)
def cow (ow : Nat → Int32) : Nat → Nat
  | 0 => 0
  | k + 1 => cow ow k + (if ow k = -1 then 0 else 1)
theorem cow_set {ow : Nat → Int32} {p : Nat} {x : Int32} (hp : ow p = -1) (hx : ¬ x = -1) : ∀ k, cow (upd ow p x) k = cow ow k + (if p < k then 1 else 0) := by
  intro k
  induction k with
  | zero => rfl
  | succ k ih =>
    unfold cow
    rw [ih]
    by_cases e : k = p
    · rw [e, upd_s, if_neg hx, hp, if_pos rfl, if_neg (show ¬ p < p by omega), if_pos (show p < p + 1 by omega)]
    · rw [upd_n e]
      by_cases h : p < k
      · rw [if_pos h, if_pos (show p < k + 1 by omega)]; omega
      · rw [if_neg h, if_neg (show ¬ p < k + 1 by omega), Nat.add_zero, Nat.add_zero]
theorem cow_tail {ow : Nat → Int32} : ∀ (j k : Nat), (∀ i, k ≤ i → i < k + j → ow i = -1) → cow ow (k + j) = cow ow k := by
  intro j k
  induction j with
  | zero => intro _; rfl
  | succ j ih =>
    intro h
    show cow ow (k + j) + (if ow (k + j) = -1 then 0 else 1) = _
    rw [ih (fun i a b => h i a (by omega)), if_pos (h (k + j) (by omega) (by omega)), Nat.add_zero]
/-- what the lines of both sides have in common -/
def LN (z : Nat) (sz tk msz : Int32) (owc owm : Nat → Int32) : Prop := z ≤ 96 ∧ sz = nI z ∧ msz = nI z ∧ tk = nI (cow owc 96) ∧ cow owc 96 ≤ 96 ∧ (∀ k, k < 96 → owc k = owm k) ∧ (∀ k, z ≤ k → k < 96 → owc k = -1) ∧ ∀ k, k < 96 → owc k = -1 ∨ ∃ c, c < 12 ∧ owc k = nI c
theorem cow_bd {ow : Nat → Int32} : ∀ k, cow ow k ≤ k := by
  intro k
  induction k with
  | zero => exact Nat.le_refl 0
  | succ k ih => unfold cow; split <;> omega
theorem put_row {ub : Nat → Int32} {c u m p : Nat} (hc : c < 12) (hu : ub c = nI u) (hm : m ≤ 11) (hp : p ≤ 8 * m) (of mof : Nat → Int32) :
    ∀ (n n' e z : Nat) (sz tk msz : Int32) (owc owm : Nat → Int32), e ≤ 8 → 8 - e < n → 8 - e < n' → LN z sz tk msz owc owm → z ≤ 8 * (m + 1) → (∀ q, e ≤ q → q < 8 → ubt u q → owc (p + q) = -1) → ∃ (z' : Nat) (sz' tk' msz' : Int32) (owc' owm' : Nat → Int32), X2_layRow_L32 ub (nI c) n sz tk of owc (nI p) (nI e) = some (sz', tk', of, owc') ∧ X4_lay_L27 (nI c) (nI u) n' mof msz owm (nI p) (nI e) = some (mof, msz', owm') ∧ LN z' sz' tk' msz' owc' owm' ∧ z' ≤ 8 * (m + 1) := by
  intro n
  induction n with
  | zero => intro n' e _ _ _ _ _ _ _ h; omega
  | succ n ih =>
    intro n' e z sz tk msz owc owm he hn hn' hL hz hfr
    cases n' with
    | zero => omega
    | succ n' =>
      have e1 : X2_layRow_L32 ub (nI c) (n + 1) sz tk of owc (nI p) (nI e) = X2_layRow_B32 ub (nI c) (X2_layRow_L32 ub (nI c) n) sz tk of owc (nI p) (nI e) := rfl
      have e2 : X4_lay_L27 (nI c) (nI u) (n' + 1) mof msz owm (nI p) (nI e) = X4_lay_B27 (nI c) (nI u) (X4_lay_L27 (nI c) (nI u) n') mof msz owm (nI p) (nI e) := rfl
      rw [e1, e2]
      unfold X2_layRow_B32 X4_lay_B27
      by_cases he8 : e = 8
      · subst he8
        rw [if_pos (by decide), if_pos (by decide)]
        exact ⟨z, sz, tk, msz, owc, owm, rfl, rfl, hL, hz⟩
      · rw [if_neg (show ¬ (8 : Int32) ≤ nI e from nI_ge (b := 8) (by omega) (by omega)), if_neg (show ¬ (8 : Int32) ≤ nI e from nI_ge (b := 8) (by omega) (by omega))]
        obtain ⟨b, hb, w⟩ := isUsed_c (ub := ub) (e := e) hc hu
        rw [hb, ob_s, nI_1]
        rcases w with ⟨pb, y⟩ | ⟨pb, y⟩
        · rw [pb, if_neg (by decide : ¬ (1 : Int32) = 0), if_neg y, nI_add, ix_ok (n := 96) (by omega) (by decide), ix_ok (n := 120) (by omega) (by decide), nI_clamp (by omega), nI_1]
          obtain ⟨l1, l2, l3, l4, l5, l6, l7, l8⟩ := hL
          have hnc : ¬ nI c = (-1 : Int32) := nI_m1 (by omega)
          have hcell := hfr e (Nat.le_refl e) (by omega) y
          have cs := cow_set (x := nI c) hcell hnc 96
          rw [if_pos (by omega)] at cs
          have bd := cow_bd (ow := upd owc (p + e) (nI c)) 96
          refine ih n' (e + 1) (max z (p + e + 1)) _ _ _ _ _ (by omega) (by omega) (by omega) ⟨by omega, ?_, ?_, ?_, bd, fun k hk => ?_, fun k h1 h2 => ?_, fun k hk => ?_⟩ (by omega) (fun q h1 h2 h3 => ?_)
          · rw [l2]
            by_cases h : z < p + e + 1
            · rw [if_pos (nI_lt h (by omega)), Nat.max_eq_right (by omega)]
            · rw [if_neg (nI_nlt (by omega) (by omega)), Nat.max_eq_left (by omega)]
          · rw [l3]
            by_cases h : z < p + e + 1
            · rw [if_pos (nI_lt h (by omega)), Nat.max_eq_right (by omega)]
            · rw [if_neg (nI_nlt (by omega) (by omega)), Nat.max_eq_left (by omega)]
          · rw [l4, nI_1, cs]
          · by_cases ek : k = p + e
            · rw [ek, upd_s, upd_s]
            · rw [upd_n ek, upd_n ek]; exact l6 k hk
          · rw [upd_n (by omega)]; exact l7 k (by omega) h2
          · by_cases ek : k = p + e
            · rw [ek, upd_s]; exact Or.inr ⟨c, hc, rfl⟩
            · rw [upd_n ek]; exact l8 k hk
          · rw [upd_n (by omega)]; exact hfr q (by omega) h2 h3
        · rw [if_pos pb, if_pos (Classical.byContradiction y)]
          exact ih n' (e + 1) z _ _ _ _ _ (by omega) (by omega) (by omega) hL hz (fun q h1 h2 h3 => hfr q (by omega) h2 h3)
theorem lay_one {fu : Nat} {ub : Nat → Int32} {c u m z : Nat} (hfu : 200 ≤ fu) (hc : c < 12) (hu : ub c = nI u) (hm : m ≤ 11) {sz tk msz : Int32} {of mof owc owm : Nat → Int32} (hL : LN z sz tk msz owc owm) (hz : z ≤ 8 * m) : ∃ (p z' : Nat) (sz' tk' msz' : Int32) (owc' owm' : Nat → Int32), X2_layRow fu sz tk ub of owc (nI c) = some (sz', tk', upd of c (nI p), owc') ∧ X4_lay fu mof msz owm (nI c) (nI u) = some (upd mof c (nI p), msz', owm') ∧ LN z' sz' tk' msz' owc' owm' ∧ z' ≤ 8 * (m + 1) := by
  unfold X2_layRow X4_lay
  rw [show (0 : Int32) = nI 0 from rfl]
  obtain ⟨p, h1, h2, h3, h4⟩ := find_at (fu := fu) (ub := ub) (owc := owc) (owm := owm) hfu hc hu hm hL.2.2.2.2.2.1 (fun k a b => hL.2.2.2.2.2.2.1 k (by omega) b) sz tk msz of mof fu fu 0 (by omega) (by omega) (by omega)
  rw [h3, h4]
  unfold X2_layRow_B23 X4_lay_B17
  rw [ix_ok hc (by decide), ix_ok hc (by decide), nI_clamp (by omega), show (0 : Int32) = nI 0 from rfl]
  obtain ⟨z', sz', tk', msz', owc', owm', y1, y2, y3, y4⟩ := put_row (ub := ub) hc hu hm h1 (upd of c (nI p)) (upd mof c (nI p)) fu fu 0 z sz tk msz owc owm (by omega) (by omega) (by omega) hL (by omega) (fun q _ a b => h2 q a b)
  exact ⟨p, z', sz', tk', msz', owc', owm', y1, y2, y3, y4⟩
