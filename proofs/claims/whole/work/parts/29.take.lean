/-! .. until nothing changes -/
def zc (ap : Nat → Int32) : Nat → Nat
  | 0 => 0
  | k + 1 => zc ap k + (if ap k = 0 then 1 else 0)
theorem zc_bd {ap : Nat → Int32} : ∀ k, zc ap k ≤ k := by
  intro k
  induction k with
  | zero => exact Nat.le_refl 0
  | succ k ih => unfold zc; split <;> omega
theorem zc_le {a b : Nat → Int32} (h : ∀ i, b i = 0 → a i = 0) : ∀ k, zc b k ≤ zc a k := by
  intro k
  induction k with
  | zero => exact Nat.le_refl 0
  | succ k ih =>
    unfold zc
    by_cases q : b k = 0
    · rw [if_pos q, if_pos (h k q)]; omega
    · rw [if_neg q]; split <;> omega
theorem zc_lt {a b : Nat → Int32} (h : ∀ i, b i = 0 → a i = 0) : ∀ k i, i < k → a i = 0 → ¬ b i = 0 → zc b k < zc a k := by
  intro k
  induction k with
  | zero => intro i hi; omega
  | succ k ih =>
    intro i hi h1 h2
    unfold zc
    by_cases e : i = k
    · rw [e] at h1 h2
      rw [if_pos h1, if_neg h2]
      have := zc_le h k
      omega
    · have := ih i (by omega) h1 h2
      by_cases q : b k = 0
      · rw [if_pos q, if_pos (h k q)]; omega
      · rw [if_neg q]; split <;> omega
def apI (S : Nat) (Q : Nat → Prop) (ρ : Nat → Nat → Prop) (ap : Nat → Int32) : Prop := (∀ a b, a < 12 → b < 12 → (ap (12 * a + b) = 0 ↔ ap (12 * b + a) = 0)) ∧ (∀ a b, a < S → b < S → Q a → Q b → ρ a b → ap (12 * a + b) = 0)
/-- a relation under which related states have the same rows -/
def bis (S T : Nat) (mf me mx : Nat → Int32) (lb : Nat → Nat → Prop) (Q : Nat → Prop) (ρ : Nat → Nat → Prop) : Prop := ∀ a b, a < S → b < S → Q a → Q b → ρ a b → rg mf me mx lb T ρ a b
theorem bis_ap {S T : Nat} {mf me mx ms : Nat → Int32} {lb : Nat → Nat → Prop} {Q : Nat → Prop} {ρ : Nat → Nat → Prop} {ap : Nat → Int32} (ok : okP S T mf me mx ms) (hQ : ∀ t, t < T → Q (mf t).toNatClampNeg → Q (mx t).toNatClampNeg) (hb : bis S T mf me mx lb Q ρ) (hA : apI S Q ρ ap) {a b : Nat} (ha : a < S) (hbS : b < S) (qa : Q a) (qb : Q b) (h : ρ a b) : rg mf me mx lb T (fun a b => ap (12 * a + b) = 0) a b := by
  have hS := ok.1
  refine rg_congr (fun t _ => ⟨rfl, rfl⟩) (fun t _ => rfl) (fun i j _ _ q => q) (fun i j hi hj fi fj q => ?_) (hb a b ha hbS qa qb h)
  obtain ⟨-, -, ⟨n1, hn1, en1⟩, -⟩ := ok.2.2 i hi
  obtain ⟨-, -, ⟨n2, hn2, en2⟩, -⟩ := ok.2.2 j hj
  have q1 := hQ i hi (by rw [fi, nI_clamp (by omega)]; exact qa)
  have q2 := hQ j hj (by rw [fj, nI_clamp (by omega)]; exact qb)
  refine hA.2 _ _ ?_ ?_ q1 q2 q
  · rw [en1, nI_clamp (by omega)]; exact hn1
  · rw [en2, nI_clamp (by omega)]; exact hn2
section TK
variable {S T fu : Nat} {mf me mv mr mn mx ms ma rc : Nat → Int32} {Q : Nat → Prop} {ρ : Nat → Nat → Prop}
theorem take_in (ok : okP S T mf me mx ms) (hfu : 50 ≤ fu) (hrc : ∀ a, a < 12 → (rc a = 0 ∧ ¬ Q a) ∨ (rc a = 1 ∧ Q a)) (hQ : ∀ t, t < T → Q (mf t).toNatClampNeg → Q (mx t).toNatClampNeg) (hb : bis S T mf me mx (labm mv mr mn ms ma) Q ρ) (hs : ∀ a b, ρ a b → ρ b a) (rec24 : (Nat → Int32) → Int32 → Option (Nat → Int32)) (rec32 : (Nat → Int32) → Int32 → Int32 → Option (Nat → Int32)) {s : Nat} (hsS : s < S) :
    ∀ (n o : Nat) (ap : Nat → Int32) (f : Int32), apI S Q ρ ap → o ≤ S → S - o < n → (f = 0 ∨ f = 1) → ∃ (ap' : Nat → Int32) (f' : Int32), X4_takeApart_L42 fu (nI S) (nI T) mf me mv mr mn mx ms ma rc rec24 rec32 n ap f (nI s) (nI o) = rec32 ap' f' (nI s + 1) ∧ apI S Q ρ ap' ∧ (f' = 0 ∨ f' = 1) ∧ (∀ k, ap' k = 0 → ap k = 0) ∧ (f' = 0 → f = 0 ∧ ap' = ap ∧ ∀ q, o ≤ q → q < S → Q s → Q q → ap (12 * s + q) = 0 → rg mf me mx (labm mv mr mn ms ma) T (fun a b => ap (12 * a + b) = 0) s q) ∧ (f' = 1 → f = 1 ∨ zc ap' 144 < zc ap 144) := by
  have hS : S ≤ 12 := ok.1
  intro n
  induction n with
  | zero => intro o _ _ _ _ h; omega
  | succ n ih =>
    intro o ap f hA ho hn hf
    show ∃ ap' f', X4_takeApart_B42 fu (nI S) (nI T) mf me mv mr mn mx ms ma rc rec24 rec32 (X4_takeApart_L42 fu (nI S) (nI T) mf me mv mr mn mx ms ma rc rec24 rec32 n) ap f (nI s) (nI o) = rec32 ap' f' (nI s + 1) ∧ _
    unfold X4_takeApart_B42
    by_cases hoS : o = S
    · subst hoS
      rw [if_pos (nI_le (Nat.le_refl o) (by omega))]
      exact ⟨ap, f, rfl, hA, hf, fun _ h => h, fun e => ⟨e, rfl, fun q a b => absurd a (by omega)⟩, fun e => Or.inl e⟩
    · have ho' : o < S := by omega
      rw [if_neg (nI_ge ho' (by omega)), i12, pk_mul, nI_add, pk_mul, nI_add, ix_ok (n := 144) (by omega) (by decide), nI_clamp (n := 12 * s + o) (by omega), nI_clamp (n := 12 * o + s) (by omega), nI_1, nI_1]
      -- when nothing happens at this pair
      have pass : (Q s → Q o → ap (12 * s + o) = 0 → rg mf me mx (labm mv mr mn ms ma) T (fun a b => ap (12 * a + b) = 0) s o) → ∃ (ap' : Nat → Int32) (f' : Int32), X4_takeApart_L42 fu (nI S) (nI T) mf me mv mr mn mx ms ma rc rec24 rec32 n ap f (nI s) (nI (o + 1)) = rec32 ap' f' (nI (s + 1)) ∧ apI S Q ρ ap' ∧ (f' = 0 ∨ f' = 1) ∧ (∀ k, ap' k = 0 → ap k = 0) ∧ (f' = 0 → f = 0 ∧ ap' = ap ∧ ∀ q, o ≤ q → q < S → Q s → Q q → ap (12 * s + q) = 0 → rg mf me mx (labm mv mr mn ms ma) T (fun a b => ap (12 * a + b) = 0) s q) ∧ (f' = 1 → f = 1 ∨ zc ap' 144 < zc ap 144) := by
        intro hp
        obtain ⟨ap', f', z1, z2, z3, z4, z5, z6⟩ := ih (o + 1) ap f hA (by omega) (by omega) hf
        rw [nI_1] at z1
        refine ⟨ap', f', z1, z2, z3, z4, fun e => ?_, z6⟩
        obtain ⟨y1, y2, y3⟩ := z5 e
        refine ⟨y1, y2, fun q a b c d g => ?_⟩
        by_cases eq : q = o
        · rw [eq] at d g ⊢; exact hp c d g
        · exact y3 q (by omega) b c d g
      by_cases h1 : ap (12 * s + o) = 0
      · rw [if_pos h1, ix_ok (k := s) (n := 12) (by omega) (by decide), nI_clamp (n := s) (by omega)]
        rcases hrc s (by omega) with ⟨r0, nq⟩ | ⟨r1, qs⟩
        · rw [if_pos r0]
          exact pass (fun c => absurd c nq)
        · rw [r1, if_neg (by decide : ¬ (1 : Int32) = 0), ix_ok (k := o) (n := 12) (by omega) (by decide), nI_clamp (n := o) (by omega)]
          rcases hrc o (by omega) with ⟨r0, nq⟩ | ⟨r1', qo⟩
          · rw [if_pos r0]
            exact pass (fun _ d => absurd d nq)
          · rw [r1', if_neg (by decide : ¬ (1 : Int32) = 0)]
            obtain ⟨b, hbb, w⟩ := different_m (mv := mv) (mr := mr) (mn := mn) (ma := ma) (ap := ap) (s := s) (o := o) ok hfu
            rw [hbb, ob_s]
            rcases w with ⟨p, z⟩ | ⟨p, z⟩
            · rw [p, if_neg (by decide : ¬ (1 : Int32) = 0), ix_ok (n := 144) (by omega) (by decide)]
              have n1 : ¬ ρ s o := fun h => z (bis_ap ok hQ hb hA hsS ho' qs qo h)
              have n2 : ¬ ρ o s := fun h => n1 (hs _ _ h)
              have mono : ∀ k, upd (upd ap (12 * s + o) 1) (12 * o + s) 1 k = 0 → ap k = 0 := by
                intro k hk
                by_cases e1 : k = 12 * o + s
                · rw [e1, upd_s] at hk; exact absurd hk (by decide)
                · rw [upd_n e1] at hk
                  by_cases e2 : k = 12 * s + o
                  · rw [e2, upd_s] at hk; exact absurd hk (by decide)
                  · rw [upd_n e2] at hk; exact hk
              have val : ∀ k, (upd (upd ap (12 * s + o) 1) (12 * o + s) 1 k = 0) ↔ (ap k = 0 ∧ ¬ k = 12 * o + s ∧ ¬ k = 12 * s + o) := by
                intro k
                constructor
                · intro hk
                  refine ⟨mono k hk, fun e => ?_, fun e => ?_⟩
                  · rw [e, upd_s] at hk; exact absurd hk (by decide)
                  · by_cases e1 : k = 12 * o + s
                    · rw [e1, upd_s] at hk; exact absurd hk (by decide)
                    · rw [upd_n e1, e, upd_s] at hk; exact absurd hk (by decide)
                · intro ⟨a, c, d⟩
                  rw [upd_n c, upd_n d]; exact a
              have hA' : apI S Q ρ (upd (upd ap (12 * s + o) 1) (12 * o + s) 1) := by
                constructor
                · intro a c ha hc
                  rw [val, val, hA.1 a c ha hc]
                  constructor
                  · intro ⟨x, y, w⟩; exact ⟨x, by omega, by omega⟩
                  · intro ⟨x, y, w⟩; exact ⟨x, by omega, by omega⟩
                · intro a c ha hc qa qc hr
                  refine (val _).mpr ⟨hA.2 a c ha hc qa qc hr, fun e => ?_, fun e => ?_⟩
                  · have e1 : a = o := by omega
                    have e2 : c = s := by omega
                    rw [e1, e2] at hr; exact n2 hr
                  · have e1 : a = s := by omega
                    have e2 : c = o := by omega
                    rw [e1, e2] at hr; exact n1 hr
              obtain ⟨ap', f', z1, z2, z3, z4, z5, z6⟩ := ih (o + 1) _ 1 hA' (by omega) (by omega) (Or.inr rfl)
              rw [nI_1] at z1
              refine ⟨ap', f', z1, z2, z3, fun k hk => mono k (z4 k hk), fun e => ?_, fun _ => Or.inr ?_⟩
              · exact absurd (z5 e).1 (by decide)
              · have l1 := zc_lt mono 144 (12 * s + o) (by omega) h1 (fun q => ((val _).mp q).2.2 rfl)
                have l2 := zc_le z4 144
                omega
            · rw [if_pos p]
              exact pass (fun _ _ _ => Classical.byContradiction z)
      · rw [if_neg h1]
        exact pass (fun _ _ g => absurd g h1)
theorem take_mid (ok : okP S T mf me mx ms) (hfu : 50 ≤ fu) (hrc : ∀ a, a < 12 → (rc a = 0 ∧ ¬ Q a) ∨ (rc a = 1 ∧ Q a)) (hQ : ∀ t, t < T → Q (mf t).toNatClampNeg → Q (mx t).toNatClampNeg) (hb : bis S T mf me mx (labm mv mr mn ms ma) Q ρ) (hs : ∀ a b, ρ a b → ρ b a) (rec24 : (Nat → Int32) → Int32 → Option (Nat → Int32)) :
    ∀ (n s : Nat) (ap : Nat → Int32) (f : Int32), apI S Q ρ ap → s ≤ S → S - s < n → (f = 0 ∨ f = 1) → ∃ (ap' : Nat → Int32) (f' : Int32), X4_takeApart_L32 fu (nI S) (nI T) mf me mv mr mn mx ms ma rc rec24 n ap f (nI s) = rec24 ap' f' ∧ apI S Q ρ ap' ∧ (f' = 0 ∨ f' = 1) ∧ (∀ k, ap' k = 0 → ap k = 0) ∧ (f' = 0 → f = 0 ∧ ap' = ap ∧ ∀ p q, s ≤ p → p < S → q < S → Q p → Q q → ap (12 * p + q) = 0 → rg mf me mx (labm mv mr mn ms ma) T (fun a b => ap (12 * a + b) = 0) p q) ∧ (f' = 1 → f = 1 ∨ zc ap' 144 < zc ap 144) := by
  have hS : S ≤ 12 := ok.1
  intro n
  induction n with
  | zero => intro s _ _ _ _ h; omega
  | succ n ih =>
    intro s ap f hA hsS hn hf
    show ∃ ap' f', X4_takeApart_B32 fu (nI S) (nI T) mf me mv mr mn mx ms ma rc rec24 (X4_takeApart_L32 fu (nI S) (nI T) mf me mv mr mn mx ms ma rc rec24 n) ap f (nI s) = rec24 ap' f' ∧ _
    unfold X4_takeApart_B32
    by_cases heq : s = S
    · subst heq
      rw [if_pos (nI_le (Nat.le_refl s) (by omega))]
      exact ⟨ap, f, rfl, hA, hf, fun _ h => h, fun e => ⟨e, rfl, fun p q a b => absurd a (by omega)⟩, fun e => Or.inl e⟩
    · rw [if_neg (nI_ge (show s < S by omega) (by omega)), show (0 : Int32) = nI 0 from rfl]
      obtain ⟨a1, f1, z1, z2, z3, z4, z5, z6⟩ := take_in (fu := fu) (rc := rc) ok hfu hrc hQ hb hs rec24 (X4_takeApart_L32 fu (nI S) (nI T) mf me mv mr mn mx ms ma rc rec24 n) (s := s) (by omega) fu 0 ap f hA (by omega) (by omega) hf
      rw [z1, nI_1]
      obtain ⟨a2, f2, y1, y2, y3, y4, y5, y6⟩ := ih (s + 1) a1 f1 z2 (by omega) (by omega) z3
      refine ⟨a2, f2, y1, y2, y3, fun k hk => z4 k (y4 k hk), fun e => ?_, fun e => ?_⟩
      · obtain ⟨w1, w2, w3⟩ := y5 e
        obtain ⟨u1, u2, u3⟩ := z5 w1
        subst u2
        refine ⟨u1, w2, fun p q h1 h2 h3 h4 h5 h6 => ?_⟩
        by_cases ep : p = s
        · rw [ep] at h4 h6 ⊢; exact u3 q (by omega) h3 h4 h5 h6
        · exact w3 p q (by omega) h2 h3 h4 h5 h6
      · have l1 := zc_le z4 144
        have l2 := zc_le y4 144
        rcases y6 e with w | w
        · rcases z6 w with v | v
          · exact Or.inl v
          · exact Or.inr (by omega)
        · exact Or.inr (by omega)
theorem take_out (ok : okP S T mf me mx ms) (hfu : 50 ≤ fu) (hrc : ∀ a, a < 12 → (rc a = 0 ∧ ¬ Q a) ∨ (rc a = 1 ∧ Q a)) (hQ : ∀ t, t < T → Q (mf t).toNatClampNeg → Q (mx t).toNatClampNeg) (hb : bis S T mf me mx (labm mv mr mn ms ma) Q ρ) (hs : ∀ a b, ρ a b → ρ b a) :
    ∀ (n : Nat) (ap : Nat → Int32) (f : Int32), apI S Q ρ ap → (f = 1 ∧ zc ap 144 + 1 < n ∨ f = 0 ∧ 0 < n ∧ ∀ p q, p < S → q < S → Q p → Q q → ap (12 * p + q) = 0 → rg mf me mx (labm mv mr mn ms ma) T (fun a b => ap (12 * a + b) = 0) p q) → ∃ ap' : Nat → Int32, X4_takeApart_L24 fu (nI S) (nI T) mf me mv mr mn mx ms ma rc n ap f = some ap' ∧ apI S Q ρ ap' ∧ ∀ p q, p < S → q < S → Q p → Q q → ap' (12 * p + q) = 0 → rg mf me mx (labm mv mr mn ms ma) T (fun a b => ap' (12 * a + b) = 0) p q := by
  have hS : S ≤ 12 := ok.1
  intro n
  induction n with
  | zero => intro ap f _ h; rcases h with ⟨-, h⟩ | ⟨-, h, -⟩ <;> omega
  | succ n ih =>
    intro ap f hA h
    show ∃ ap', X4_takeApart_B24 fu (nI S) (nI T) mf me mv mr mn mx ms ma rc (X4_takeApart_L24 fu (nI S) (nI T) mf me mv mr mn mx ms ma rc n) ap f = some ap' ∧ _
    unfold X4_takeApart_B24
    rcases h with ⟨e, hn⟩ | ⟨e, -, hst⟩
    · rw [e, if_neg (by decide : ¬ (1 : Int32) = 0), show (0 : Int32) = nI 0 from rfl]
      obtain ⟨a1, f1, z1, z2, z3, z4, z5, z6⟩ := take_mid (fu := fu) (rc := rc) ok hfu hrc hQ hb hs (X4_takeApart_L24 fu (nI S) (nI T) mf me mv mr mn mx ms ma rc n) fu 0 ap (nI 0) hA (by omega) (by omega) (Or.inl rfl)
      rw [z1]
      refine ih a1 f1 z2 ?_
      rcases z3 with q | q
      · obtain ⟨-, y2, y3⟩ := z5 q
        subst y2
        exact Or.inr ⟨q, by omega, fun p q h1 h2 h3 h4 h5 => y3 p q (by omega) h1 h2 h3 h4 h5⟩
      · refine Or.inl ⟨q, ?_⟩
        rcases z6 q with w | w
        · exact absurd w (by decide)
        · omega
    · rw [if_pos e]
      exact ⟨ap, rfl, hA, hst⟩
end TK
theorem take_fill {S T fu : Nat} {mf me mv mr mn mx ms ma rc : Nat → Int32} :
    ∀ (n k : Nat) (ap : Nat → Int32), k ≤ 144 → 144 - k < n → (∀ i, i < k → ap i = 0) → ∃ ap' : Nat → Int32, X4_takeApart_L2 fu (nI S) (nI T) mf me mv mr mn mx ms ma rc n ap (nI k) = X4_takeApart_L24 fu (nI S) (nI T) mf me mv mr mn mx ms ma rc fu ap' 1 ∧ ∀ i, i < 144 → ap' i = 0 := by
  intro n
  induction n with
  | zero => intro k _ _ h; omega
  | succ n ih =>
    intro k ap hk hn h0
    show ∃ ap', X4_takeApart_B2 fu (nI S) (nI T) mf me mv mr mn mx ms ma rc (X4_takeApart_L2 fu (nI S) (nI T) mf me mv mr mn mx ms ma rc n) ap (nI k) = _ ∧ _
    unfold X4_takeApart_B2
    by_cases hk1 : k = 144
    · subst hk1
      rw [if_pos (by decide)]
      exact ⟨ap, rfl, h0⟩
    · rw [if_neg (show ¬ (144 : Int32) ≤ nI k from nI_ge (b := 144) (by omega) (by omega)), ix_ok (n := 144) (by omega) (by decide), nI_clamp (by omega), nI_1]
      refine ih (k + 1) _ (by omega) (by omega) (fun i hi => ?_)
      by_cases e : i = k
      · rw [e, upd_s]
      · rw [upd_n e]; exact h0 i (by omega)
/-- the reference's relation at the end: it keeps together what a relation like rows keeps together, and is one itself -/
theorem take_m {S T fu : Nat} {mf me mv mr mn mx ms ma rc ap0 : Nat → Int32} {Q : Nat → Prop} {ρ : Nat → Nat → Prop} (ok : okP S T mf me mx ms) (hfu : 200 ≤ fu) (hrc : ∀ a, a < 12 → (rc a = 0 ∧ ¬ Q a) ∨ (rc a = 1 ∧ Q a)) (hQ : ∀ t, t < T → Q (mf t).toNatClampNeg → Q (mx t).toNatClampNeg) (hb : bis S T mf me mx (labm mv mr mn ms ma) Q ρ) (hs : ∀ a b, ρ a b → ρ b a) : ∃ ap : Nat → Int32, X4_takeApart fu (nI S) (nI T) mf me mv mr mn mx ms ma rc ap0 = some ap ∧ (∀ a b, a < 12 → b < 12 → (ap (12 * a + b) = 0 ↔ ap (12 * b + a) = 0)) ∧ (∀ a b, a < S → b < S → Q a → Q b → ρ a b → ap (12 * a + b) = 0) ∧ bis S T mf me mx (labm mv mr mn ms ma) Q (fun a b => ap (12 * a + b) = 0) := by
  have hS : S ≤ 12 := ok.1
  unfold X4_takeApart
  rw [show (0 : Int32) = nI 0 from rfl]
  obtain ⟨a1, h1, h2⟩ := take_fill (S := S) (T := T) (fu := fu) (mf := mf) (me := me) (mv := mv) (mr := mr) (mn := mn) (mx := mx) (ms := ms) (ma := ma) (rc := rc) fu 0 ap0 (by omega) (by omega) (fun i hi => absurd hi (by omega))
  rw [h1]
  have bd := zc_bd (ap := a1) 144
  obtain ⟨ap, z1, z2, z3⟩ := take_out (fu := fu) (rc := rc) ok (by omega) hrc hQ hb hs fu a1 1 ⟨fun a b ha hb => by rw [h2 _ (by omega), h2 _ (by omega)], fun a b ha hb _ _ _ => h2 _ (by omega)⟩ (Or.inl ⟨rfl, by omega⟩)
  exact ⟨ap, z1, z2.1, z2.2, fun a b ha hb qa qb h => z3 a b ha hb qa qb h⟩
