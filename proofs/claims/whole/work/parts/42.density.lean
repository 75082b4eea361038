/-! density -/
theorem cow_congr {f g : Nat → Int32} : ∀ k, (∀ i, i < k → f i = g i) → cow f k = cow g k := by
  intro k
  induction k with
  | zero => intro _; rfl
  | succ k ih =>
    intro h
    show cow f k + _ = cow g k + _
    rw [ih (fun i hi => h i (by omega)), h k (by omega)]
theorem dens_m {z : Nat} (hz : z ≤ 96) {ow : Nat → Int32} (th : Int32) : ∀ (n k : Nat), k ≤ z → z - k < n → X4_density_L29 (nI z) ow n th (nI (cow ow k)) (nI k) = X4_density_B61 (nI z) th (nI (cow ow z)) := by
  intro n
  induction n with
  | zero => intro k _ h; omega
  | succ n ih =>
    intro k hk hn
    show X4_density_B29 (nI z) ow (X4_density_L29 (nI z) ow n) th (nI (cow ow k)) (nI k) = _
    unfold X4_density_B29
    by_cases e : k = z
    · subst e
      rw [if_pos (nI_le (Nat.le_refl k) (by omega))]
    · rw [if_neg (nI_ge (show k < z by omega) (by omega)), ix_ok (show k < 120 by omega) (by decide), nI_clamp (by omega), nI_1]
      have hc : cow ow (k + 1) = cow ow k + (if ow k = -1 then 0 else 1) := rfl
      by_cases h : ow k = -1
      · rw [if_pos h, ← ih (k + 1) (by omega) (by omega), hc, if_pos h]
        rw [show nI (cow ow k) + 0 = nI (cow ow k + 0) from nI_add _ 0]
      · rw [if_neg h, ← ih (k + 1) (by omega) (by omega), hc, if_neg h, nI_1]
theorem nan_ok : ∀ b, b < 97 → ∀ a, a < 97 → 0 < b → a ≤ b → FP.ddiv (FP.i2d (nI a)) (FP.i2d (nI b)) &&& 0x7fffffffffffffff ≤ 0x7ff0000000000000 := by decide +kernel
theorem dens_0 {z z' tk : Int32} {fu : Nat} (th : Int32) (ow : Nat → Int32) (lo : Nat → UInt64) : L_density 0 z tk lo = some (1, lo) ∧ X4_density fu th 0 z' ow = some (FP.dconst0, 1) := ⟨rfl, rfl⟩
theorem dens_1 {z fu : Nat} (hfu : 200 ≤ fu) {sz tk msz : Int32} {owc owm : Nat → Int32} (h : LN z sz tk msz owc owm) (th : Int32) (lo : Nat → UInt64) : ∃ r : UInt64, L_density 1 sz tk lo = some (0, vf_upd lo (0 : Int32).toNatClampNeg r) ∧ X4_density fu th 1 msz owm = some (r, 0) := by
  obtain ⟨h1, rfl, rfl, rfl, h5, h6, h7, h8⟩ := h
  have e1 : cow owc 96 = cow owm z := by
    have := cow_tail (ow := owc) (96 - z) z (fun i a b => h7 i a (by omega))
    rw [show z + (96 - z) = 96 by omega] at this
    rw [this]
    exact cow_congr z (fun i hi => h6 i (by omega))
  have hle : cow owm z ≤ z := cow_bd z
  unfold L_density X3_density X4_density X4_density_B13
  have hm : X4_density_L29 (nI z) owm fu 0 0 0 = X4_density_B61 (nI z) 0 (nI (cow owm z)) := dens_m h1 0 fu 0 (by omega) (by omega)
  rw [need_1, xb_r, if_neg (by decide : ¬ (1 : Int32) = 0), if_pos rfl, hm, e1]
  unfold X4_density_B61
  by_cases hz : z = 0
  · subst hz
    exact ⟨FP.dconst1, rfl, rfl⟩
  · rw [if_pos (show 0 < nI z from nI_lt (a := 0) (b := z) (by omega) (by omega)), if_neg (nI_ne0 (by omega) (by omega))]
    have hn := nan_ok z (by omega) (cow owm z) (by omega) (by omega) hle
    unfold nn
    rw [if_pos hn, if_pos hn, xb_r]
    exact ⟨_, rfl, rfl⟩
