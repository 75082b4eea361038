abbrev rmJ7_fill_53178 : Room := { frames := 0, cells := 0, slots := 0, locals := 0 }
set_option maxHeartbeats 4000000 in
set_option maxRecDepth 100000 in
theorem c_J7_fill_53178 {l : Launch} {D : va_G} (fu : Nat) (an aq : Nat) (aca : ClassId) (a_f : Nat → Int32) (v1 : Int32) {o : Nat → Int32} (hf : J7_fill_53178 fu an a_f v1 = some o) : Cv l yJ7_fill_53178 wsJ7_fill_53178 rmJ7_fill_53178 D ([(aca, .int)]) ([(aq, .inl (aca, an, .inl a_f))]) [.ref aq, .int v1] ([(aq, .inl (aca, an, .inl o))]) := by
  intro sz
  refine pw_entry (Qc := fun A => pw_Qv D ([(aca, .int)]) ([(aq, .inl (aca, an, .inl o))]) A) (cc := cJ7_fill_53178) (maxL := 4) (ret := none) (by decide) rfl (Nat.le_of_ble_eq_true rfl) ?_ sz
  intro p e s m args below meth c A ls Z H locs hx hb hr hlocks hts hown hml hnm hK hP hD hS hA hl hZ
  have hown : s.vm.findClass RJ7 = some m.cls := hown
  have hl : lv_has ls 4 [(0, .ref aq), (1, .int v1)] := hl
  have L5 : ∀ n5 : Nat, ∀ (a_f : Nat → Int32) (v2 v3 : Int32) (H : Heap) (locs : List Loc) (ls : Array Slot), va_P D vwCl ([(aq, .inl (aca, an, .inl a_f))]) H → va_D A ([(aq, .inl (aca, an, .inl a_f))]) → va_S A s.heap H locs → lv_has ls 4 [(0, .ref aq), (1, .int v1), (2, .int v2), (3, .int v3)] → J7_fill_53178_L5 an v1 n5 a_f v2 v3 = some o → W p l e rmJ7_fill_53178 s m args below meth c H locs 0 0 Z (F0 m 5 ls []) := by
    intro n5
    induction n5 with
    | zero =>
      intro a_f v2 v3 H locs ls hP hD hS hl hf
      exact pr_n hf
    | succ n5 ih5 =>
      intro a_f v2 v3 H locs ls hP hD hS hl hf
      replace hf : J7_fill_53178_B5 an v1 (J7_fill_53178_L5 an v1  n5) a_f v2 v3 = some o := hf
      unfold J7_fill_53178_B5 at hf
      refine lv_iload_n hx hb dJ7_fill_53178_5 rfl (lv_at hl 2 rfl) ?_
      refine lv_iload_n hx hb dJ7_fill_53178_6 rfl (lv_at hl 3 rfl) ?_
      refine lv_icmp_ge (tgt := 20) hx hb dJ7_fill_53178_7 (by decide) (fun hc => ?_) (fun hc => ?_)
      · have hf := pr_t hf hc
        obtain rfl := Option.some.inj hf
        subst hZ
        exact pw_rv hx hb hr hlocks hK hP hD hS (Nat.le_of_ble_eq_true rfl) (Nat.le_of_ble_eq_true rfl) dJ7_fill_53178_20
      · have hf := pr_f hf hc
        refine lv_aload_n hx hb dJ7_fill_53178_10 rfl (lv_at hl 0 rfl) ?_
        refine lv_iload_n hx hb dJ7_fill_53178_11 rfl (lv_at hl 2 rfl) ?_
        refine lv_iload_n hx hb dJ7_fill_53178_12 rfl (lv_at hl 1 rfl) ?_
        obtain ⟨hi13, hf⟩ := pr_in hf
        refine va_iast hx hb hK hP hD hS 0 0 rfl rfl hi13 dJ7_fill_53178_13 (fun H locs hP hD hS => ?_)
        have hP : va_P D vwCl ([(aq, .inl (aca, an, .inl (upd a_f v2.toNatClampNeg v1)))]) H := hP
        have hD : va_D A ([(aq, .inl (aca, an, .inl (upd a_f v2.toNatClampNeg v1)))]) := hD
        refine lv_iinc (v := (v2 + (1 : Int32))) (lv' := [(2, .int (v2 + (1 : Int32))), (0, .ref aq), (1, .int v1), (3, .int v3)]) hx hb dJ7_fill_53178_14 hl (k := 2) rfl rfl (by decide) rfl (fun ls hl => ?_)
        refine lv_goto (tgt := 5) hx hb dJ7_fill_53178_17 (by decide) ?_
        exact ih5 (upd a_f v2.toNatClampNeg v1) (v2 + (1 : Int32)) v3 H locs ls hP hD hS (lv_sub hl [1, 2, 0, 3] rfl) hf
  unfold J7_fill_53178 at hf
  refine lv_iconst (v := (0 : Int32)) hx hb dJ7_fill_53178_0 (by decide) ?_
  refine lv_istore_n (lv' := [(2, .int (0 : Int32)), (0, .ref aq), (1, .int v1)]) hx hb dJ7_fill_53178_1 rfl hl (by decide) rfl (fun ls hl => ?_)
  refine lv_aload_n hx hb dJ7_fill_53178_2 rfl (lv_at hl 1 rfl) ?_
  refine va_alen (v := (Int32.ofNat an)) hx hb hK hP 0 0 rfl rfl rfl dJ7_fill_53178_3 ?_
  refine lv_istore_n (lv' := [(3, .int (Int32.ofNat an)), (2, .int (0 : Int32)), (0, .ref aq), (1, .int v1)]) hx hb dJ7_fill_53178_4 rfl hl (by decide) rfl (fun ls hl => ?_)
  exact L5 fu a_f (0 : Int32) (Int32.ofNat an) H locs ls hP hD hS (lv_sub hl [2, 3, 1, 0] rfl) hf
abbrev rmJ7_fill_d0a16 : Room := { frames := 0, cells := 0, slots := 0, locals := 0 }
set_option maxHeartbeats 4000000 in
set_option maxRecDepth 100000 in
theorem c_J7_fill_d0a16 {l : Launch} {D : va_G} (fu : Nat) (an aq : Nat) (aca : ClassId) (a_f : Nat → Int64) (v1 : Int64) {o : Nat → Int64} (hf : J7_fill_d0a16 fu an a_f v1 = some o) : Cv l yJ7_fill_d0a16 wsJ7_fill_d0a16 rmJ7_fill_d0a16 D ([(aca, .long)]) ([(aq, .inl (aca, an, .inr (.inl a_f)))]) [.ref aq, .long v1] ([(aq, .inl (aca, an, .inr (.inl o)))]) := by
  intro sz
  refine pw_entry (Qc := fun A => pw_Qv D ([(aca, .long)]) ([(aq, .inl (aca, an, .inr (.inl o)))]) A) (cc := cJ7_fill_d0a16) (maxL := 5) (ret := none) (by decide) rfl (Nat.le_of_ble_eq_true rfl) ?_ sz
  intro p e s m args below meth c A ls Z H locs hx hb hr hlocks hts hown hml hnm hK hP hD hS hA hl hZ
  have hown : s.vm.findClass RJ7 = some m.cls := hown
  have hl : lv_has ls 5 [(0, .ref aq), (1, .long v1)] := hl
  have L6 : ∀ n6 : Nat, ∀ (a_f : Nat → Int64) (v3 v4 : Int32) (H : Heap) (locs : List Loc) (ls : Array Slot), va_P D vwCl ([(aq, .inl (aca, an, .inr (.inl a_f)))]) H → va_D A ([(aq, .inl (aca, an, .inr (.inl a_f)))]) → va_S A s.heap H locs → lv_has ls 5 [(0, .ref aq), (1, .long v1), (3, .int v3), (4, .int v4)] → J7_fill_d0a16_L6 an v1 n6 a_f v3 v4 = some o → W p l e rmJ7_fill_d0a16 s m args below meth c H locs 0 0 Z (F0 m 6 ls []) := by
    intro n6
    induction n6 with
    | zero =>
      intro a_f v3 v4 H locs ls hP hD hS hl hf
      exact pr_n hf
    | succ n6 ih6 =>
      intro a_f v3 v4 H locs ls hP hD hS hl hf
      replace hf : J7_fill_d0a16_B6 an v1 (J7_fill_d0a16_L6 an v1  n6) a_f v3 v4 = some o := hf
      unfold J7_fill_d0a16_B6 at hf
      refine lv_iload_n hx hb dJ7_fill_d0a16_6 rfl (lv_at hl 2 rfl) ?_
      refine lv_iload hx hb dJ7_fill_d0a16_7 (lv_at hl 3 rfl) ?_
      refine lv_icmp_ge (tgt := 22) hx hb dJ7_fill_d0a16_9 (by decide) (fun hc => ?_) (fun hc => ?_)
      · have hf := pr_t hf hc
        obtain rfl := Option.some.inj hf
        subst hZ
        exact pw_rv hx hb hr hlocks hK hP hD hS (Nat.le_of_ble_eq_true rfl) (Nat.le_of_ble_eq_true rfl) dJ7_fill_d0a16_22
      · have hf := pr_f hf hc
        refine lv_aload_n hx hb dJ7_fill_d0a16_12 rfl (lv_at hl 0 rfl) ?_
        refine lv_iload_n hx hb dJ7_fill_d0a16_13 rfl (lv_at hl 2 rfl) ?_
        refine lv_lload_n hx hb dJ7_fill_d0a16_14 rfl (lv_at hl 1 rfl) ?_
        obtain ⟨hi15, hf⟩ := pr_in hf
        refine va_last hx hb hK hP hD hS 0 0 rfl rfl hi15 dJ7_fill_d0a16_15 (fun H locs hP hD hS => ?_)
        have hP : va_P D vwCl ([(aq, .inl (aca, an, .inr (.inl (vp_updL a_f v3.toNatClampNeg v1))))]) H := hP
        have hD : va_D A ([(aq, .inl (aca, an, .inr (.inl (vp_updL a_f v3.toNatClampNeg v1))))]) := hD
        refine lv_iinc (v := (v3 + (1 : Int32))) (lv' := [(3, .int (v3 + (1 : Int32))), (0, .ref aq), (1, .long v1), (4, .int v4)]) hx hb dJ7_fill_d0a16_16 hl (k := 2) rfl rfl (by decide) rfl (fun ls hl => ?_)
        refine lv_goto (tgt := 6) hx hb dJ7_fill_d0a16_19 (by decide) ?_
        exact ih6 (vp_updL a_f v3.toNatClampNeg v1) (v3 + (1 : Int32)) v4 H locs ls hP hD hS (lv_sub hl [1, 2, 0, 3] rfl) hf
  unfold J7_fill_d0a16 at hf
  refine lv_iconst (v := (0 : Int32)) hx hb dJ7_fill_d0a16_0 (by decide) ?_
  refine lv_istore_n (lv' := [(3, .int (0 : Int32)), (0, .ref aq), (1, .long v1)]) hx hb dJ7_fill_d0a16_1 rfl hl (by decide) rfl (fun ls hl => ?_)
  refine lv_aload_n hx hb dJ7_fill_d0a16_2 rfl (lv_at hl 1 rfl) ?_
  refine va_alen (v := (Int32.ofNat an)) hx hb hK hP 0 0 rfl rfl rfl dJ7_fill_d0a16_3 ?_
  refine lv_istore (lv' := [(4, .int (Int32.ofNat an)), (3, .int (0 : Int32)), (0, .ref aq), (1, .long v1)]) hx hb dJ7_fill_d0a16_4 hl (by decide) rfl (fun ls hl => ?_)
  exact L6 fu a_f (0 : Int32) (Int32.ofNat an) H locs ls hP hD hS (lv_sub hl [2, 3, 1, 0] rfl) hf
abbrev rmJ6_bitCount_0f7a4 : Room := { frames := 0, cells := 0, slots := 0, locals := 0 }
set_option maxHeartbeats 4000000 in
set_option maxRecDepth 100000 in
theorem c_J6_bitCount_0f7a4 {l : Launch} {D : va_G} {tys : List (ClassId × FieldType)} (v0 : Int32) {o : Int32} (hf : J6_bitCount_0f7a4 v0 = some o) : Ci l yJ6_bitCount_0f7a4 wsJ6_bitCount_0f7a4 rmJ6_bitCount_0f7a4 D tys ([] : va_W) [.int v0] o ([] : va_W) := by
  intro sz
  refine pw_entry (Qc := fun A => pw_Qi D tys ([] : va_W) A o) (cc := cJ6_bitCount_0f7a4) (maxL := 1) (ret := (some .int)) (by decide) rfl (Nat.le_of_ble_eq_true rfl) ?_ sz
  intro p e s m args below meth c A ls Z H locs hx hb hr hlocks hts hown hml hnm hK hP hD hS hA hl hZ
  have hown : s.vm.findClass RJ6 = some m.cls := hown
  have k265 := hts (.constant RJ6 265 (1431655765)) (by decide +kernel)
  have k266 := hts (.constant RJ6 266 (858993459)) (by decide +kernel)
  have k267 := hts (.constant RJ6 267 (252645135)) (by decide +kernel)
  have hl : lv_has ls 1 [(0, .int v0)] := hl
  unfold J6_bitCount_0f7a4 at hf
  refine lv_iload_n hx hb dJ6_bitCount_0f7a4_0 rfl (lv_at hl 0 rfl) ?_
  refine lv_iload_n hx hb dJ6_bitCount_0f7a4_1 rfl (lv_at hl 0 rfl) ?_
  refine lv_iconst (v := (1 : Int32)) hx hb dJ6_bitCount_0f7a4_2 (by decide) ?_
  refine lv_iushr (v := (((v0).toUInt32 >>> (((1 : Int32)).toUInt32 &&& Int32.toUInt32 31)).toInt32)) hx hb dJ6_bitCount_0f7a4_3 rfl ?_
  refine lv_ldcw (v := (1431655765 : Int32)) hx hb hown k265 dJ6_bitCount_0f7a4_4 ?_
  refine lv_iand hx hb dJ6_bitCount_0f7a4_7 ?_
  refine lv_isub hx hb dJ6_bitCount_0f7a4_8 ?_
  refine lv_istore_n (lv' := [(0, .int (v0 - ((((v0).toUInt32 >>> (((1 : Int32)).toUInt32 &&& Int32.toUInt32 31)).toInt32) &&& (1431655765 : Int32))))]) hx hb dJ6_bitCount_0f7a4_9 rfl hl (by decide) rfl (fun ls hl => ?_)
  refine lv_iload_n hx hb dJ6_bitCount_0f7a4_10 rfl (lv_at hl 0 rfl) ?_
  refine lv_ldcw (v := (858993459 : Int32)) hx hb hown k266 dJ6_bitCount_0f7a4_11 ?_
  refine lv_iand hx hb dJ6_bitCount_0f7a4_14 ?_
  refine lv_iload_n hx hb dJ6_bitCount_0f7a4_15 rfl (lv_at hl 0 rfl) ?_
  refine lv_iconst (v := (2 : Int32)) hx hb dJ6_bitCount_0f7a4_16 (by decide) ?_
  refine lv_iushr (v := ((((v0 - ((((v0).toUInt32 >>> (((1 : Int32)).toUInt32 &&& Int32.toUInt32 31)).toInt32) &&& (1431655765 : Int32)))).toUInt32 >>> (((2 : Int32)).toUInt32 &&& Int32.toUInt32 31)).toInt32)) hx hb dJ6_bitCount_0f7a4_17 rfl ?_
  refine lv_ldcw (v := (858993459 : Int32)) hx hb hown k266 dJ6_bitCount_0f7a4_18 ?_
  refine lv_iand hx hb dJ6_bitCount_0f7a4_21 ?_
  refine lv_iadd hx hb dJ6_bitCount_0f7a4_22 ?_
  refine lv_istore_n (lv' := [(0, .int (((v0 - ((((v0).toUInt32 >>> (((1 : Int32)).toUInt32 &&& Int32.toUInt32 31)).toInt32) &&& (1431655765 : Int32))) &&& (858993459 : Int32)) + (((((v0 - ((((v0).toUInt32 >>> (((1 : Int32)).toUInt32 &&& Int32.toUInt32 31)).toInt32) &&& (1431655765 : Int32)))).toUInt32 >>> (((2 : Int32)).toUInt32 &&& Int32.toUInt32 31)).toInt32) &&& (858993459 : Int32))))]) hx hb dJ6_bitCount_0f7a4_23 rfl hl (by decide) rfl (fun ls hl => ?_)
  refine lv_iload_n hx hb dJ6_bitCount_0f7a4_24 rfl (lv_at hl 0 rfl) ?_
  refine lv_iload_n hx hb dJ6_bitCount_0f7a4_25 rfl (lv_at hl 0 rfl) ?_
  refine lv_iconst (v := (4 : Int32)) hx hb dJ6_bitCount_0f7a4_26 (by decide) ?_
  refine lv_iushr (v := ((((((v0 - ((((v0).toUInt32 >>> (((1 : Int32)).toUInt32 &&& Int32.toUInt32 31)).toInt32) &&& (1431655765 : Int32))) &&& (858993459 : Int32)) + (((((v0 - ((((v0).toUInt32 >>> (((1 : Int32)).toUInt32 &&& Int32.toUInt32 31)).toInt32) &&& (1431655765 : Int32)))).toUInt32 >>> (((2 : Int32)).toUInt32 &&& Int32.toUInt32 31)).toInt32) &&& (858993459 : Int32)))).toUInt32 >>> (((4 : Int32)).toUInt32 &&& Int32.toUInt32 31)).toInt32)) hx hb dJ6_bitCount_0f7a4_27 rfl ?_
  refine lv_iadd hx hb dJ6_bitCount_0f7a4_28 ?_
  refine lv_ldcw (v := (252645135 : Int32)) hx hb hown k267 dJ6_bitCount_0f7a4_29 ?_
  refine lv_iand hx hb dJ6_bitCount_0f7a4_32 ?_
  refine lv_istore_n (lv' := [(0, .int (((((v0 - ((((v0).toUInt32 >>> (((1 : Int32)).toUInt32 &&& Int32.toUInt32 31)).toInt32) &&& (1431655765 : Int32))) &&& (858993459 : Int32)) + (((((v0 - ((((v0).toUInt32 >>> (((1 : Int32)).toUInt32 &&& Int32.toUInt32 31)).toInt32) &&& (1431655765 : Int32)))).toUInt32 >>> (((2 : Int32)).toUInt32 &&& Int32.toUInt32 31)).toInt32) &&& (858993459 : Int32))) + ((((((v0 - ((((v0).toUInt32 >>> (((1 : Int32)).toUInt32 &&& Int32.toUInt32 31)).toInt32) &&& (1431655765 : Int32))) &&& (858993459 : Int32)) + (((((v0 - ((((v0).toUInt32 >>> (((1 : Int32)).toUInt32 &&& Int32.toUInt32 31)).toInt32) &&& (1431655765 : Int32)))).toUInt32 >>> (((2 : Int32)).toUInt32 &&& Int32.toUInt32 31)).toInt32) &&& (858993459 : Int32)))).toUInt32 >>> (((4 : Int32)).toUInt32 &&& Int32.toUInt32 31)).toInt32)) &&& (252645135 : Int32)))]) hx hb dJ6_bitCount_0f7a4_33 rfl hl (by decide) rfl (fun ls hl => ?_)
  refine lv_iload_n hx hb dJ6_bitCount_0f7a4_34 rfl (lv_at hl 0 rfl) ?_
  refine lv_iload_n hx hb dJ6_bitCount_0f7a4_35 rfl (lv_at hl 0 rfl) ?_
  refine lv_bipush (v := (8 : Int32)) hx hb dJ6_bitCount_0f7a4_36 (by decide) ?_
  refine lv_iushr (v := ((((((((v0 - ((((v0).toUInt32 >>> (((1 : Int32)).toUInt32 &&& Int32.toUInt32 31)).toInt32) &&& (1431655765 : Int32))) &&& (858993459 : Int32)) + (((((v0 - ((((v0).toUInt32 >>> (((1 : Int32)).toUInt32 &&& Int32.toUInt32 31)).toInt32) &&& (1431655765 : Int32)))).toUInt32 >>> (((2 : Int32)).toUInt32 &&& Int32.toUInt32 31)).toInt32) &&& (858993459 : Int32))) + ((((((v0 - ((((v0).toUInt32 >>> (((1 : Int32)).toUInt32 &&& Int32.toUInt32 31)).toInt32) &&& (1431655765 : Int32))) &&& (858993459 : Int32)) + (((((v0 - ((((v0).toUInt32 >>> (((1 : Int32)).toUInt32 &&& Int32.toUInt32 31)).toInt32) &&& (1431655765 : Int32)))).toUInt32 >>> (((2 : Int32)).toUInt32 &&& Int32.toUInt32 31)).toInt32) &&& (858993459 : Int32)))).toUInt32 >>> (((4 : Int32)).toUInt32 &&& Int32.toUInt32 31)).toInt32)) &&& (252645135 : Int32))).toUInt32 >>> (((8 : Int32)).toUInt32 &&& Int32.toUInt32 31)).toInt32)) hx hb dJ6_bitCount_0f7a4_38 rfl ?_
  refine lv_iadd hx hb dJ6_bitCount_0f7a4_39 ?_
  refine lv_istore_n (lv' := [(0, .int ((((((v0 - ((((v0).toUInt32 >>> (((1 : Int32)).toUInt32 &&& Int32.toUInt32 31)).toInt32) &&& (1431655765 : Int32))) &&& (858993459 : Int32)) + (((((v0 - ((((v0).toUInt32 >>> (((1 : Int32)).toUInt32 &&& Int32.toUInt32 31)).toInt32) &&& (1431655765 : Int32)))).toUInt32 >>> (((2 : Int32)).toUInt32 &&& Int32.toUInt32 31)).toInt32) &&& (858993459 : Int32))) + ((((((v0 - ((((v0).toUInt32 >>> (((1 : Int32)).toUInt32 &&& Int32.toUInt32 31)).toInt32) &&& (1431655765 : Int32))) &&& (858993459 : Int32)) + (((((v0 - ((((v0).toUInt32 >>> (((1 : Int32)).toUInt32 &&& Int32.toUInt32 31)).toInt32) &&& (1431655765 : Int32)))).toUInt32 >>> (((2 : Int32)).toUInt32 &&& Int32.toUInt32 31)).toInt32) &&& (858993459 : Int32)))).toUInt32 >>> (((4 : Int32)).toUInt32 &&& Int32.toUInt32 31)).toInt32)) &&& (252645135 : Int32)) + ((((((((v0 - ((((v0).toUInt32 >>> (((1 : Int32)).toUInt32 &&& Int32.toUInt32 31)).toInt32) &&& (1431655765 : Int32))) &&& (858993459 : Int32)) + (((((v0 - ((((v0).toUInt32 >>> (((1 : Int32)).toUInt32 &&& Int32.toUInt32 31)).toInt32) &&& (1431655765 : Int32)))).toUInt32 >>> (((2 : Int32)).toUInt32 &&& Int32.toUInt32 31)).toInt32) &&& (858993459 : Int32))) + ((((((v0 - ((((v0).toUInt32 >>> (((1 : Int32)).toUInt32 &&& Int32.toUInt32 31)).toInt32) &&& (1431655765 : Int32))) &&& (858993459 : Int32)) + (((((v0 - ((((v0).toUInt32 >>> (((1 : Int32)).toUInt32 &&& Int32.toUInt32 31)).toInt32) &&& (1431655765 : Int32)))).toUInt32 >>> (((2 : Int32)).toUInt32 &&& Int32.toUInt32 31)).toInt32) &&& (858993459 : Int32)))).toUInt32 >>> (((4 : Int32)).toUInt32 &&& Int32.toUInt32 31)).toInt32)) &&& (252645135 : Int32))).toUInt32 >>> (((8 : Int32)).toUInt32 &&& Int32.toUInt32 31)).toInt32)))]) hx hb dJ6_bitCount_0f7a4_40 rfl hl (by decide) rfl (fun ls hl => ?_)
  refine lv_iload_n hx hb dJ6_bitCount_0f7a4_41 rfl (lv_at hl 0 rfl) ?_
  refine lv_iload_n hx hb dJ6_bitCount_0f7a4_42 rfl (lv_at hl 0 rfl) ?_
  refine lv_bipush (v := (16 : Int32)) hx hb dJ6_bitCount_0f7a4_43 (by decide) ?_
  refine lv_iushr (v := (((((((((v0 - ((((v0).toUInt32 >>> (((1 : Int32)).toUInt32 &&& Int32.toUInt32 31)).toInt32) &&& (1431655765 : Int32))) &&& (858993459 : Int32)) + (((((v0 - ((((v0).toUInt32 >>> (((1 : Int32)).toUInt32 &&& Int32.toUInt32 31)).toInt32) &&& (1431655765 : Int32)))).toUInt32 >>> (((2 : Int32)).toUInt32 &&& Int32.toUInt32 31)).toInt32) &&& (858993459 : Int32))) + ((((((v0 - ((((v0).toUInt32 >>> (((1 : Int32)).toUInt32 &&& Int32.toUInt32 31)).toInt32) &&& (1431655765 : Int32))) &&& (858993459 : Int32)) + (((((v0 - ((((v0).toUInt32 >>> (((1 : Int32)).toUInt32 &&& Int32.toUInt32 31)).toInt32) &&& (1431655765 : Int32)))).toUInt32 >>> (((2 : Int32)).toUInt32 &&& Int32.toUInt32 31)).toInt32) &&& (858993459 : Int32)))).toUInt32 >>> (((4 : Int32)).toUInt32 &&& Int32.toUInt32 31)).toInt32)) &&& (252645135 : Int32)) + ((((((((v0 - ((((v0).toUInt32 >>> (((1 : Int32)).toUInt32 &&& Int32.toUInt32 31)).toInt32) &&& (1431655765 : Int32))) &&& (858993459 : Int32)) + (((((v0 - ((((v0).toUInt32 >>> (((1 : Int32)).toUInt32 &&& Int32.toUInt32 31)).toInt32) &&& (1431655765 : Int32)))).toUInt32 >>> (((2 : Int32)).toUInt32 &&& Int32.toUInt32 31)).toInt32) &&& (858993459 : Int32))) + ((((((v0 - ((((v0).toUInt32 >>> (((1 : Int32)).toUInt32 &&& Int32.toUInt32 31)).toInt32) &&& (1431655765 : Int32))) &&& (858993459 : Int32)) + (((((v0 - ((((v0).toUInt32 >>> (((1 : Int32)).toUInt32 &&& Int32.toUInt32 31)).toInt32) &&& (1431655765 : Int32)))).toUInt32 >>> (((2 : Int32)).toUInt32 &&& Int32.toUInt32 31)).toInt32) &&& (858993459 : Int32)))).toUInt32 >>> (((4 : Int32)).toUInt32 &&& Int32.toUInt32 31)).toInt32)) &&& (252645135 : Int32))).toUInt32 >>> (((8 : Int32)).toUInt32 &&& Int32.toUInt32 31)).toInt32))).toUInt32 >>> (((16 : Int32)).toUInt32 &&& Int32.toUInt32 31)).toInt32)) hx hb dJ6_bitCount_0f7a4_45 rfl ?_
  refine lv_iadd hx hb dJ6_bitCount_0f7a4_46 ?_
  refine lv_istore_n (lv' := [(0, .int (((((((v0 - ((((v0).toUInt32 >>> (((1 : Int32)).toUInt32 &&& Int32.toUInt32 31)).toInt32) &&& (1431655765 : Int32))) &&& (858993459 : Int32)) + (((((v0 - ((((v0).toUInt32 >>> (((1 : Int32)).toUInt32 &&& Int32.toUInt32 31)).toInt32) &&& (1431655765 : Int32)))).toUInt32 >>> (((2 : Int32)).toUInt32 &&& Int32.toUInt32 31)).toInt32) &&& (858993459 : Int32))) + ((((((v0 - ((((v0).toUInt32 >>> (((1 : Int32)).toUInt32 &&& Int32.toUInt32 31)).toInt32) &&& (1431655765 : Int32))) &&& (858993459 : Int32)) + (((((v0 - ((((v0).toUInt32 >>> (((1 : Int32)).toUInt32 &&& Int32.toUInt32 31)).toInt32) &&& (1431655765 : Int32)))).toUInt32 >>> (((2 : Int32)).toUInt32 &&& Int32.toUInt32 31)).toInt32) &&& (858993459 : Int32)))).toUInt32 >>> (((4 : Int32)).toUInt32 &&& Int32.toUInt32 31)).toInt32)) &&& (252645135 : Int32)) + ((((((((v0 - ((((v0).toUInt32 >>> (((1 : Int32)).toUInt32 &&& Int32.toUInt32 31)).toInt32) &&& (1431655765 : Int32))) &&& (858993459 : Int32)) + (((((v0 - ((((v0).toUInt32 >>> (((1 : Int32)).toUInt32 &&& Int32.toUInt32 31)).toInt32) &&& (1431655765 : Int32)))).toUInt32 >>> (((2 : Int32)).toUInt32 &&& Int32.toUInt32 31)).toInt32) &&& (858993459 : Int32))) + ((((((v0 - ((((v0).toUInt32 >>> (((1 : Int32)).toUInt32 &&& Int32.toUInt32 31)).toInt32) &&& (1431655765 : Int32))) &&& (858993459 : Int32)) + (((((v0 - ((((v0).toUInt32 >>> (((1 : Int32)).toUInt32 &&& Int32.toUInt32 31)).toInt32) &&& (1431655765 : Int32)))).toUInt32 >>> (((2 : Int32)).toUInt32 &&& Int32.toUInt32 31)).toInt32) &&& (858993459 : Int32)))).toUInt32 >>> (((4 : Int32)).toUInt32 &&& Int32.toUInt32 31)).toInt32)) &&& (252645135 : Int32))).toUInt32 >>> (((8 : Int32)).toUInt32 &&& Int32.toUInt32 31)).toInt32)) + (((((((((v0 - ((((v0).toUInt32 >>> (((1 : Int32)).toUInt32 &&& Int32.toUInt32 31)).toInt32) &&& (1431655765 : Int32))) &&& (858993459 : Int32)) + (((((v0 - ((((v0).toUInt32 >>> (((1 : Int32)).toUInt32 &&& Int32.toUInt32 31)).toInt32) &&& (1431655765 : Int32)))).toUInt32 >>> (((2 : Int32)).toUInt32 &&& Int32.toUInt32 31)).toInt32) &&& (858993459 : Int32))) + ((((((v0 - ((((v0).toUInt32 >>> (((1 : Int32)).toUInt32 &&& Int32.toUInt32 31)).toInt32) &&& (1431655765 : Int32))) &&& (858993459 : Int32)) + (((((v0 - ((((v0).toUInt32 >>> (((1 : Int32)).toUInt32 &&& Int32.toUInt32 31)).toInt32) &&& (1431655765 : Int32)))).toUInt32 >>> (((2 : Int32)).toUInt32 &&& Int32.toUInt32 31)).toInt32) &&& (858993459 : Int32)))).toUInt32 >>> (((4 : Int32)).toUInt32 &&& Int32.toUInt32 31)).toInt32)) &&& (252645135 : Int32)) + ((((((((v0 - ((((v0).toUInt32 >>> (((1 : Int32)).toUInt32 &&& Int32.toUInt32 31)).toInt32) &&& (1431655765 : Int32))) &&& (858993459 : Int32)) + (((((v0 - ((((v0).toUInt32 >>> (((1 : Int32)).toUInt32 &&& Int32.toUInt32 31)).toInt32) &&& (1431655765 : Int32)))).toUInt32 >>> (((2 : Int32)).toUInt32 &&& Int32.toUInt32 31)).toInt32) &&& (858993459 : Int32))) + ((((((v0 - ((((v0).toUInt32 >>> (((1 : Int32)).toUInt32 &&& Int32.toUInt32 31)).toInt32) &&& (1431655765 : Int32))) &&& (858993459 : Int32)) + (((((v0 - ((((v0).toUInt32 >>> (((1 : Int32)).toUInt32 &&& Int32.toUInt32 31)).toInt32) &&& (1431655765 : Int32)))).toUInt32 >>> (((2 : Int32)).toUInt32 &&& Int32.toUInt32 31)).toInt32) &&& (858993459 : Int32)))).toUInt32 >>> (((4 : Int32)).toUInt32 &&& Int32.toUInt32 31)).toInt32)) &&& (252645135 : Int32))).toUInt32 >>> (((8 : Int32)).toUInt32 &&& Int32.toUInt32 31)).toInt32))).toUInt32 >>> (((16 : Int32)).toUInt32 &&& Int32.toUInt32 31)).toInt32)))]) hx hb dJ6_bitCount_0f7a4_47 rfl hl (by decide) rfl (fun ls hl => ?_)
  refine lv_iload_n hx hb dJ6_bitCount_0f7a4_48 rfl (lv_at hl 0 rfl) ?_
  refine lv_bipush (v := (63 : Int32)) hx hb dJ6_bitCount_0f7a4_49 (by decide) ?_
  refine lv_iand hx hb dJ6_bitCount_0f7a4_51 ?_
  obtain rfl := Option.some.inj hf
  subst hZ
  exact pw_ri hx hb hr hlocks hK hP hD hS (Nat.le_of_ble_eq_true rfl) (Nat.le_of_ble_eq_true rfl) dJ6_bitCount_0f7a4_52
abbrev rmX3_isBelow : Room := { frames := 0, cells := 0, slots := 0, locals := 0 }
set_option maxHeartbeats 4000000 in
set_option maxRecDepth 100000 in
theorem c_X3_isBelow {l : Launch} {D : va_G} {tys : List (ClassId × FieldType)} (v0 v1 : Int32) {o : Int32} (hf : X3_isBelow v0 v1 = some o) : Ci l yX3_isBelow wsX3_isBelow rmX3_isBelow D tys ([] : va_W) [.int v0, .int v1] o ([] : va_W) := by
  intro sz
  refine pw_entry (Qc := fun A => pw_Qi D tys ([] : va_W) A o) (cc := cX3_isBelow) (maxL := 2) (ret := (some .boolean)) (by decide) rfl (Nat.le_of_ble_eq_true rfl) ?_ sz
  intro p e s m args below meth c A ls Z H locs hx hb hr hlocks hts hown hml hnm hK hP hD hS hA hl hZ
  have hown : s.vm.findClass RX3 = some m.cls := hown
  have hl : lv_has ls 2 [(0, .int v0), (1, .int v1)] := hl
  unfold X3_isBelow at hf
  refine lv_iload_n hx hb dX3_isBelow_0 rfl (lv_at hl 0 rfl) ?_
  refine lv_if_lt (tgt := 13) hx hb dX3_isBelow_1 (by decide) (fun hc => ?_) (fun hc => ?_)
  · have hf := pr_t hf hc
    refine lv_iconst (v := (0 : Int32)) hx hb dX3_isBelow_13 (by decide) ?_
    obtain rfl := Option.some.inj hf
    subst hZ
    exact pw_rz hx hb hr hlocks (Or.inl rfl) hK hP hD hS (Nat.le_of_ble_eq_true rfl) (Nat.le_of_ble_eq_true rfl) dX3_isBelow_14
  · have hf := pr_f hf hc
    refine lv_iload_n hx hb dX3_isBelow_4 rfl (lv_at hl 0 rfl) ?_
    refine lv_iload_n hx hb dX3_isBelow_5 rfl (lv_at hl 1 rfl) ?_
    refine lv_icmp_ge (tgt := 13) hx hb dX3_isBelow_6 (by decide) (fun hc => ?_) (fun hc => ?_)
    · have hf := pr_t hf hc
      refine lv_iconst (v := (0 : Int32)) hx hb dX3_isBelow_13 (by decide) ?_
      obtain rfl := Option.some.inj hf
      subst hZ
      exact pw_rz hx hb hr hlocks (Or.inl rfl) hK hP hD hS (Nat.le_of_ble_eq_true rfl) (Nat.le_of_ble_eq_true rfl) dX3_isBelow_14
    · have hf := pr_f hf hc
      refine lv_iconst (v := (1 : Int32)) hx hb dX3_isBelow_9 (by decide) ?_
      refine lv_goto (tgt := 14) hx hb dX3_isBelow_10 (by decide) ?_
      obtain rfl := Option.some.inj hf
      subst hZ
      exact pw_rz hx hb hr hlocks (Or.inr rfl) hK hP hD hS (Nat.le_of_ble_eq_true rfl) (Nat.le_of_ble_eq_true rfl) dX3_isBelow_14
abbrev rmX3_isNumber : Room := { frames := 0, cells := 0, slots := 0, locals := 0 }
set_option maxHeartbeats 4000000 in
set_option maxRecDepth 100000 in
theorem c_X3_isNumber {l : Launch} {D : va_G} {tys : List (ClassId × FieldType)} (v0 : Int32) {o : Int32} (hf : X3_isNumber v0 = some o) : Ci l yX3_isNumber wsX3_isNumber rmX3_isNumber D tys ([] : va_W) [.int v0] o ([] : va_W) := by
  intro sz
  refine pw_entry (Qc := fun A => pw_Qi D tys ([] : va_W) A o) (cc := cX3_isNumber) (maxL := 1) (ret := (some .boolean)) (by decide) rfl (Nat.le_of_ble_eq_true rfl) ?_ sz
  intro p e s m args below meth c A ls Z H locs hx hb hr hlocks hts hown hml hnm hK hP hD hS hA hl hZ
  have hown : s.vm.findClass RX3 = some m.cls := hown
  have hl : lv_has ls 1 [(0, .int v0)] := hl
  unfold X3_isNumber at hf
  refine lv_iload_n hx hb dX3_isNumber_0 rfl (lv_at hl 0 rfl) ?_
  refine lv_sipush (v := (-1000 : Int32)) hx hb dX3_isNumber_1 (by decide) ?_
  refine lv_icmp_lt (tgt := 18) hx hb dX3_isNumber_4 (by decide) (fun hc => ?_) (fun hc => ?_)
  · have hf := pr_t hf hc
    refine lv_iconst (v := (0 : Int32)) hx hb dX3_isNumber_18 (by decide) ?_
    obtain rfl := Option.some.inj hf
    subst hZ
    exact pw_rz hx hb hr hlocks (Or.inl rfl) hK hP hD hS (Nat.le_of_ble_eq_true rfl) (Nat.le_of_ble_eq_true rfl) dX3_isNumber_19
  · have hf := pr_f hf hc
    refine lv_iload_n hx hb dX3_isNumber_7 rfl (lv_at hl 0 rfl) ?_
    refine lv_sipush (v := (1000 : Int32)) hx hb dX3_isNumber_8 (by decide) ?_
    refine lv_icmp_gt (tgt := 18) hx hb dX3_isNumber_11 (by decide) (fun hc => ?_) (fun hc => ?_)
    · have hf := pr_t hf hc
      refine lv_iconst (v := (0 : Int32)) hx hb dX3_isNumber_18 (by decide) ?_
      obtain rfl := Option.some.inj hf
      subst hZ
      exact pw_rz hx hb hr hlocks (Or.inl rfl) hK hP hD hS (Nat.le_of_ble_eq_true rfl) (Nat.le_of_ble_eq_true rfl) dX3_isNumber_19
    · have hf := pr_f hf hc
      refine lv_iconst (v := (1 : Int32)) hx hb dX3_isNumber_14 (by decide) ?_
      refine lv_goto (tgt := 19) hx hb dX3_isNumber_15 (by decide) ?_
      obtain rfl := Option.some.inj hf
      subst hZ
      exact pw_rz hx hb hr hlocks (Or.inr rfl) hK hP hD hS (Nat.le_of_ble_eq_true rfl) (Nat.le_of_ble_eq_true rfl) dX3_isNumber_19
abbrev rmX3_isAction : Room := { frames := 1, cells := 0, slots := 0, locals := 21 }
set_option maxHeartbeats 4000000 in
set_option maxRecDepth 100000 in
theorem c_X3_isAction {l : Launch} {D : va_G} {tys : List (ClassId × FieldType)} (v0 v1 v2 : Int32) {o : Int32} (hf : X3_isAction v0 v1 v2 = some o) : Ci l yX3_isAction wsX3_isAction rmX3_isAction D tys ([] : va_W) [.int v0, .int v1, .int v2] o ([] : va_W) := by
  intro sz
  refine pw_entry (Qc := fun A => pw_Qi D tys ([] : va_W) A o) (cc := cX3_isAction) (maxL := 3) (ret := (some .boolean)) (by decide) rfl (Nat.le_of_ble_eq_true rfl) ?_ sz
  intro p e s m args below meth c A ls Z H locs hx hb hr hlocks hts hown hml hnm hK hP hD hS hA hl hZ
  have hown : s.vm.findClass RX3 = some m.cls := hown
  have hl : lv_has ls 3 [(0, .int v0), (1, .int v1), (2, .int v2)] := hl
  have B36 : ∀  (H : Heap) (locs : List Loc) (ls : Array Slot), va_P D vwCl ([] : va_W) H → va_D A ([] : va_W) → va_S A s.heap H locs → lv_has ls 3 [(1, .int v1), (2, .int v2)] → X3_isAction_B36 v1 v2  = some o → W p l e rmX3_isAction s m args below meth c H locs 0 0 Z (F0 m 36 ls []) := by
    intro  H locs ls hP hD hS hl hf
    unfold X3_isAction_B36 at hf
    refine lv_iload_n hx hb dX3_isAction_36 rfl (lv_at hl 0 rfl) ?_
    refine lv_iconst (v := (3 : Int32)) hx hb dX3_isAction_37 (by decide) ?_
    obtain ⟨x38, hg38, hf⟩ := pr_b hf
    refine pw_cSiE (As := [.int v1, .int (3 : Int32)]) (rest := []) ⟨hx, hb, hml, hown, hts⟩ (c_X3_isBelow (D := D) (tys := tys) v1 (3 : Int32) hg38) (va_cwS 2 hts gX3_isAction_X3_isBelow rfl rfl rfl (by decide +kernel) ⟨Nat.le_of_ble_eq_true rfl, Nat.le_of_ble_eq_true rfl⟩) hK hP hD hS hA rfl hl.1 rfl (Nat.le_of_ble_eq_true rfl) dX3_isAction_38 ⟨Nat.le_of_ble_eq_true rfl, Nat.le_of_ble_eq_true rfl⟩ (fun H locs hP hD hS => ?_)
    refine lv_if_eq (tgt := 55) hx hb dX3_isAction_41 (by decide) (fun hc => ?_) (fun hc => ?_)
    · have hf := pr_t hf hc
      refine lv_iconst (v := (0 : Int32)) hx hb dX3_isAction_55 (by decide) ?_
      obtain rfl := Option.some.inj hf
      subst hZ
      exact pw_rz hx hb hr hlocks (Or.inl rfl) hK hP hD hS (Nat.le_of_ble_eq_true rfl) (Nat.le_of_ble_eq_true rfl) dX3_isAction_56
    · have hf := pr_f hf hc
      refine lv_iload_n hx hb dX3_isAction_44 rfl (lv_at hl 1 rfl) ?_
      obtain ⟨x45, hg45, hf⟩ := pr_b hf
      refine pw_cSiE (As := [.int v2]) (rest := []) ⟨hx, hb, hml, hown, hts⟩ (c_X3_isNumber (D := D) (tys := tys) v2 hg45) (va_cwS 1 hts gX3_isAction_X3_isNumber rfl rfl rfl (by decide +kernel) ⟨Nat.le_of_ble_eq_true rfl, Nat.le_of_ble_eq_true rfl⟩) hK hP hD hS hA rfl hl.1 rfl (Nat.le_of_ble_eq_true rfl) dX3_isAction_45 ⟨Nat.le_of_ble_eq_true rfl, Nat.le_of_ble_eq_true rfl⟩ (fun H locs hP hD hS => ?_)
      refine lv_if_eq (tgt := 55) hx hb dX3_isAction_48 (by decide) (fun hc => ?_) (fun hc => ?_)
      · have hf := pr_t hf hc
        refine lv_iconst (v := (0 : Int32)) hx hb dX3_isAction_55 (by decide) ?_
        obtain rfl := Option.some.inj hf
        subst hZ
        exact pw_rz hx hb hr hlocks (Or.inl rfl) hK hP hD hS (Nat.le_of_ble_eq_true rfl) (Nat.le_of_ble_eq_true rfl) dX3_isAction_56
      · have hf := pr_f hf hc
        refine lv_iconst (v := (1 : Int32)) hx hb dX3_isAction_51 (by decide) ?_
        refine lv_goto (tgt := 56) hx hb dX3_isAction_52 (by decide) ?_
        obtain rfl := Option.some.inj hf
        subst hZ
        exact pw_rz hx hb hr hlocks (Or.inr rfl) hK hP hD hS (Nat.le_of_ble_eq_true rfl) (Nat.le_of_ble_eq_true rfl) dX3_isAction_56
  unfold X3_isAction at hf
  refine lv_iload_n hx hb dX3_isAction_0 rfl (lv_at hl 0 rfl) ?_
  by_cases hc0 : v0 = (0 : Int32)
  · have hf := pr_t hf hc0
    refine pw_tab (off := 35) (tgt := 36) hx hb dX3_isAction_1 hc0 (by decide) (by decide) (by decide) (by decide) ?_
    exact B36 H locs ls hP hD hS (lv_sub hl [1, 2] rfl) hf
  have hf := pr_f hf hc0
  by_cases hc1 : v0 = (1 : Int32)
  · have hf := pr_t hf hc1
    refine pw_tab (off := 35) (tgt := 36) hx hb dX3_isAction_1 hc1 (by decide) (by decide) (by decide) (by decide) ?_
    exact B36 H locs ls hP hD hS (lv_sub hl [1, 2] rfl) hf
  have hf := pr_f hf hc1
  by_cases hc2 : v0 = (2 : Int32)
  · have hf := pr_t hf hc2
    refine pw_tab (off := 56) (tgt := 57) hx hb dX3_isAction_1 hc2 (by decide) (by decide) (by decide) (by decide) ?_
    refine lv_iload_n hx hb dX3_isAction_57 rfl (lv_at hl 1 rfl) ?_
    refine lv_iconst (v := (4 : Int32)) hx hb dX3_isAction_58 (by decide) ?_
    obtain ⟨x59, hg59, hf⟩ := pr_b hf
    refine pw_cSiE (As := [.int v1, .int (4 : Int32)]) (rest := []) ⟨hx, hb, hml, hown, hts⟩ (c_X3_isBelow (D := D) (tys := tys) v1 (4 : Int32) hg59) (va_cwS 2 hts gX3_isAction_X3_isBelow rfl rfl rfl (by decide +kernel) ⟨Nat.le_of_ble_eq_true rfl, Nat.le_of_ble_eq_true rfl⟩) hK hP hD hS hA rfl hl.1 rfl (Nat.le_of_ble_eq_true rfl) dX3_isAction_59 ⟨Nat.le_of_ble_eq_true rfl, Nat.le_of_ble_eq_true rfl⟩ (fun H locs hP hD hS => ?_)
    refine lv_if_eq (tgt := 81) hx hb dX3_isAction_62 (by decide) (fun hc => ?_) (fun hc => ?_)
    · have hf := pr_t hf hc
      refine lv_iconst (v := (0 : Int32)) hx hb dX3_isAction_81 (by decide) ?_
      obtain rfl := Option.some.inj hf
      subst hZ
      exact pw_rz hx hb hr hlocks (Or.inl rfl) hK hP hD hS (Nat.le_of_ble_eq_true rfl) (Nat.le_of_ble_eq_true rfl) dX3_isAction_82
    · have hf := pr_f hf hc
      refine lv_iload_n hx hb dX3_isAction_65 rfl (lv_at hl 2 rfl) ?_
      refine lv_iconst (v := (1 : Int32)) hx hb dX3_isAction_66 (by decide) ?_
      refine lv_icmp_lt (tgt := 81) hx hb dX3_isAction_67 (by decide) (fun hc => ?_) (fun hc => ?_)
      · have hf := pr_t hf hc
        refine lv_iconst (v := (0 : Int32)) hx hb dX3_isAction_81 (by decide) ?_
        obtain rfl := Option.some.inj hf
        subst hZ
        exact pw_rz hx hb hr hlocks (Or.inl rfl) hK hP hD hS (Nat.le_of_ble_eq_true rfl) (Nat.le_of_ble_eq_true rfl) dX3_isAction_82
      · have hf := pr_f hf hc
        refine lv_iload_n hx hb dX3_isAction_70 rfl (lv_at hl 2 rfl) ?_
        refine lv_sipush (v := (1000 : Int32)) hx hb dX3_isAction_71 (by decide) ?_
        refine lv_icmp_gt (tgt := 81) hx hb dX3_isAction_74 (by decide) (fun hc => ?_) (fun hc => ?_)
        · have hf := pr_t hf hc
          refine lv_iconst (v := (0 : Int32)) hx hb dX3_isAction_81 (by decide) ?_
          obtain rfl := Option.some.inj hf
          subst hZ
          exact pw_rz hx hb hr hlocks (Or.inl rfl) hK hP hD hS (Nat.le_of_ble_eq_true rfl) (Nat.le_of_ble_eq_true rfl) dX3_isAction_82
        · have hf := pr_f hf hc
          refine lv_iconst (v := (1 : Int32)) hx hb dX3_isAction_77 (by decide) ?_
          refine lv_goto (tgt := 82) hx hb dX3_isAction_78 (by decide) ?_
          obtain rfl := Option.some.inj hf
          subst hZ
          exact pw_rz hx hb hr hlocks (Or.inr rfl) hK hP hD hS (Nat.le_of_ble_eq_true rfl) (Nat.le_of_ble_eq_true rfl) dX3_isAction_82
  have hf := pr_f hf hc2
  by_cases hc3 : v0 = (3 : Int32)
  · have hf := pr_t hf hc3
    refine pw_tab (off := 82) (tgt := 83) hx hb dX3_isAction_1 hc3 (by decide) (by decide) (by decide) (by decide) ?_
    refine lv_iload_n hx hb dX3_isAction_83 rfl (lv_at hl 1 rfl) ?_
    refine lv_iconst (v := (4 : Int32)) hx hb dX3_isAction_84 (by decide) ?_
    obtain ⟨x85, hg85, hf⟩ := pr_b hf
    refine pw_cSiE (As := [.int v1, .int (4 : Int32)]) (rest := []) ⟨hx, hb, hml, hown, hts⟩ (c_X3_isBelow (D := D) (tys := tys) v1 (4 : Int32) hg85) (va_cwS 2 hts gX3_isAction_X3_isBelow rfl rfl rfl (by decide +kernel) ⟨Nat.le_of_ble_eq_true rfl, Nat.le_of_ble_eq_true rfl⟩) hK hP hD hS hA rfl hl.1 rfl (Nat.le_of_ble_eq_true rfl) dX3_isAction_85 ⟨Nat.le_of_ble_eq_true rfl, Nat.le_of_ble_eq_true rfl⟩ (fun H locs hP hD hS => ?_)
    obtain ⟨hn, hf⟩ := pr_nz hf
    obtain rfl := Option.some.inj hf
    subst hZ
    exact pw_rz hx hb hr hlocks hn hK hP hD hS (Nat.le_of_ble_eq_true rfl) (Nat.le_of_ble_eq_true rfl) dX3_isAction_88
  have hf := pr_f hf hc3
  by_cases hc4 : v0 = (4 : Int32)
  · have hf := pr_t hf hc4
    refine pw_tab (off := 88) (tgt := 89) hx hb dX3_isAction_1 hc4 (by decide) (by decide) (by decide) (by decide) ?_
    refine lv_iload_n hx hb dX3_isAction_89 rfl (lv_at hl 1 rfl) ?_
    refine lv_if_lt (tgt := 103) hx hb dX3_isAction_90 (by decide) (fun hc => ?_) (fun hc => ?_)
    · have hf := pr_t hf hc
      refine lv_iconst (v := (0 : Int32)) hx hb dX3_isAction_103 (by decide) ?_
      obtain rfl := Option.some.inj hf
      subst hZ
      exact pw_rz hx hb hr hlocks (Or.inl rfl) hK hP hD hS (Nat.le_of_ble_eq_true rfl) (Nat.le_of_ble_eq_true rfl) dX3_isAction_104
    · have hf := pr_f hf hc
      refine lv_iload_n hx hb dX3_isAction_93 rfl (lv_at hl 1 rfl) ?_
      refine lv_bipush (v := (99 : Int32)) hx hb dX3_isAction_94 (by decide) ?_
      refine lv_icmp_gt (tgt := 103) hx hb dX3_isAction_96 (by decide) (fun hc => ?_) (fun hc => ?_)
      · have hf := pr_t hf hc
        refine lv_iconst (v := (0 : Int32)) hx hb dX3_isAction_103 (by decide) ?_
        obtain rfl := Option.some.inj hf
        subst hZ
        exact pw_rz hx hb hr hlocks (Or.inl rfl) hK hP hD hS (Nat.le_of_ble_eq_true rfl) (Nat.le_of_ble_eq_true rfl) dX3_isAction_104
      · have hf := pr_f hf hc
        refine lv_iconst (v := (1 : Int32)) hx hb dX3_isAction_99 (by decide) ?_
        refine lv_goto (tgt := 104) hx hb dX3_isAction_100 (by decide) ?_
        obtain rfl := Option.some.inj hf
        subst hZ
        exact pw_rz hx hb hr hlocks (Or.inr rfl) hK hP hD hS (Nat.le_of_ble_eq_true rfl) (Nat.le_of_ble_eq_true rfl) dX3_isAction_104
  have hf := pr_f hf hc4
  refine lv_tableOut (tgt := 105) hx hb dX3_isAction_1 (by have := lv_neT (a := 0) hc0 (by decide); have := lv_neT (a := 1) hc1 (by decide); have := lv_neT (a := 2) hc2 (by decide); have := lv_neT (a := 3) hc3 (by decide); have := lv_neT (a := 4) hc4 (by decide); omega) (by decide) ?_
  refine lv_iconst (v := (0 : Int32)) hx hb dX3_isAction_105 (by decide) ?_
  obtain rfl := Option.some.inj hf
  subst hZ
  exact pw_rz hx hb hr hlocks (Or.inl rfl) hK hP hD hS (Nat.le_of_ble_eq_true rfl) (Nat.le_of_ble_eq_true rfl) dX3_isAction_106
abbrev rmX3_mix : Room := { frames := 0, cells := 0, slots := 0, locals := 0 }
set_option maxHeartbeats 4000000 in
set_option maxRecDepth 100000 in
theorem c_X3_mix {l : Launch} {D : va_G} {tys : List (ClassId × FieldType)} (v0 v2 : Int64) {o : Int64} (hf : X3_mix v0 v2 = some o) : Cl l yX3_mix wsX3_mix rmX3_mix D tys ([] : va_W) [.long v0, .long v2] o ([] : va_W) := by
  intro sz
  refine pw_entry (Qc := fun A => pw_Ql D tys ([] : va_W) A o) (cc := cX3_mix) (maxL := 4) (ret := (some .long)) (by decide) rfl (Nat.le_of_ble_eq_true rfl) ?_ sz
  intro p e s m args below meth c A ls Z H locs hx hb hr hlocks hts hown hml hnm hK hP hD hS hA hl hZ
  have hown : s.vm.findClass RX3 = some m.cls := hown
  have k209 := hts (.constantLong RX3 209 (31)) (by decide +kernel)
  have hl : lv_has ls 4 [(0, .long v0), (2, .long v2)] := hl
  unfold X3_mix at hf
  refine lv_lload_n hx hb dX3_mix_0 rfl (lv_at hl 0 rfl) ?_
  refine lv_ldc2 (v := (31 : Int64)) hx hb hown k209 dX3_mix_1 ?_
  refine lv_lmul hx hb dX3_mix_4 ?_
  refine lv_lload_n hx hb dX3_mix_5 rfl (lv_at hl 1 rfl) ?_
  refine lv_ladd hx hb dX3_mix_6 ?_
  obtain rfl := Option.some.inj hf
  subst hZ
  exact pw_rl hx hb hr hlocks hK hP hD hS (Nat.le_of_ble_eq_true rfl) (Nat.le_of_ble_eq_true rfl) dX3_mix_7
abbrev rmX4_isIn : Room := { frames := 0, cells := 0, slots := 0, locals := 0 }
set_option maxHeartbeats 4000000 in
set_option maxRecDepth 100000 in
theorem c_X4_isIn {l : Launch} {D : va_G} {tys : List (ClassId × FieldType)} (v0 v1 v2 : Int32) {o : Int32} (hf : X4_isIn v0 v1 v2 = some o) : Ci l yX4_isIn wsX4_isIn rmX4_isIn D tys ([] : va_W) [.int v0, .int v1, .int v2] o ([] : va_W) := by
  intro sz
  refine pw_entry (Qc := fun A => pw_Qi D tys ([] : va_W) A o) (cc := cX4_isIn) (maxL := 3) (ret := (some .boolean)) (by decide) rfl (Nat.le_of_ble_eq_true rfl) ?_ sz
  intro p e s m args below meth c A ls Z H locs hx hb hr hlocks hts hown hml hnm hK hP hD hS hA hl hZ
  have hown : s.vm.findClass RX4 = some m.cls := hown
  have hl : lv_has ls 3 [(0, .int v0), (1, .int v1), (2, .int v2)] := hl
  unfold X4_isIn at hf
  refine lv_iload_n hx hb dX4_isIn_0 rfl (lv_at hl 0 rfl) ?_
  refine lv_iload_n hx hb dX4_isIn_1 rfl (lv_at hl 1 rfl) ?_
  refine lv_icmp_lt (tgt := 14) hx hb dX4_isIn_2 (by decide) (fun hc => ?_) (fun hc => ?_)
  · have hf := pr_t hf hc
    refine lv_iconst (v := (0 : Int32)) hx hb dX4_isIn_14 (by decide) ?_
    obtain rfl := Option.some.inj hf
    subst hZ
    exact pw_rz hx hb hr hlocks (Or.inl rfl) hK hP hD hS (Nat.le_of_ble_eq_true rfl) (Nat.le_of_ble_eq_true rfl) dX4_isIn_15
  · have hf := pr_f hf hc
    refine lv_iload_n hx hb dX4_isIn_5 rfl (lv_at hl 0 rfl) ?_
    refine lv_iload_n hx hb dX4_isIn_6 rfl (lv_at hl 2 rfl) ?_
    refine lv_icmp_gt (tgt := 14) hx hb dX4_isIn_7 (by decide) (fun hc => ?_) (fun hc => ?_)
    · have hf := pr_t hf hc
      refine lv_iconst (v := (0 : Int32)) hx hb dX4_isIn_14 (by decide) ?_
      obtain rfl := Option.some.inj hf
      subst hZ
      exact pw_rz hx hb hr hlocks (Or.inl rfl) hK hP hD hS (Nat.le_of_ble_eq_true rfl) (Nat.le_of_ble_eq_true rfl) dX4_isIn_15
    · have hf := pr_f hf hc
      refine lv_iconst (v := (1 : Int32)) hx hb dX4_isIn_10 (by decide) ?_
      refine lv_goto (tgt := 15) hx hb dX4_isIn_11 (by decide) ?_
      obtain rfl := Option.some.inj hf
      subst hZ
      exact pw_rz hx hb hr hlocks (Or.inr rfl) hK hP hD hS (Nat.le_of_ble_eq_true rfl) (Nat.le_of_ble_eq_true rfl) dX4_isIn_15
abbrev rmX4_isEvent : Room := { frames := 1, cells := 0, slots := 0, locals := 22 }
set_option maxHeartbeats 4000000 in
set_option maxRecDepth 100000 in
theorem c_X4_isEvent {l : Launch} {D : va_G} {tys : List (ClassId × FieldType)} (v0 : Int32) {o : Int32} (hf : X4_isEvent v0 = some o) : Ci l yX4_isEvent wsX4_isEvent rmX4_isEvent D tys ([] : va_W) [.int v0] o ([] : va_W) := by
  intro sz
  refine pw_entry (Qc := fun A => pw_Qi D tys ([] : va_W) A o) (cc := cX4_isEvent) (maxL := 1) (ret := (some .boolean)) (by decide) rfl (Nat.le_of_ble_eq_true rfl) ?_ sz
  intro p e s m args below meth c A ls Z H locs hx hb hr hlocks hts hown hml hnm hK hP hD hS hA hl hZ
  have hown : s.vm.findClass RX4 = some m.cls := hown
  have hl : lv_has ls 1 [(0, .int v0)] := hl
  unfold X4_isEvent at hf
  refine lv_iload_n hx hb dX4_isEvent_0 rfl (lv_at hl 0 rfl) ?_
  refine lv_iconst (v := (0 : Int32)) hx hb dX4_isEvent_1 (by decide) ?_
  refine lv_bipush (v := (7 : Int32)) hx hb dX4_isEvent_2 (by decide) ?_
  obtain ⟨x4, hg4, hf⟩ := pr_b hf
  refine pw_cSiE (As := [.int v0, .int (0 : Int32), .int (7 : Int32)]) (rest := []) ⟨hx, hb, hml, hown, hts⟩ (c_X4_isIn (D := D) (tys := tys) v0 (0 : Int32) (7 : Int32) hg4) (va_cwS 3 hts gX4_isEvent_X4_isIn rfl rfl rfl (by decide +kernel) ⟨Nat.le_of_ble_eq_true rfl, Nat.le_of_ble_eq_true rfl⟩) hK hP hD hS hA rfl hl.1 rfl (Nat.le_of_ble_eq_true rfl) dX4_isEvent_4 ⟨Nat.le_of_ble_eq_true rfl, Nat.le_of_ble_eq_true rfl⟩ (fun H locs hP hD hS => ?_)
  obtain ⟨hn, hf⟩ := pr_nz hf
  obtain rfl := Option.some.inj hf
  subst hZ
  exact pw_rz hx hb hr hlocks hn hK hP hD hS (Nat.le_of_ble_eq_true rfl) (Nat.le_of_ble_eq_true rfl) dX4_isEvent_7
abbrev rmX4_isNumber : Room := { frames := 1, cells := 0, slots := 0, locals := 22 }
set_option maxHeartbeats 4000000 in
set_option maxRecDepth 100000 in
theorem c_X4_isNumber {l : Launch} {D : va_G} {tys : List (ClassId × FieldType)} (v0 : Int32) {o : Int32} (hf : X4_isNumber v0 = some o) : Ci l yX4_isNumber wsX4_isNumber rmX4_isNumber D tys ([] : va_W) [.int v0] o ([] : va_W) := by
  intro sz
  refine pw_entry (Qc := fun A => pw_Qi D tys ([] : va_W) A o) (cc := cX4_isNumber) (maxL := 1) (ret := (some .boolean)) (by decide) rfl (Nat.le_of_ble_eq_true rfl) ?_ sz
  intro p e s m args below meth c A ls Z H locs hx hb hr hlocks hts hown hml hnm hK hP hD hS hA hl hZ
  have hown : s.vm.findClass RX4 = some m.cls := hown
  have hl : lv_has ls 1 [(0, .int v0)] := hl
  unfold X4_isNumber at hf
  refine lv_iload_n hx hb dX4_isNumber_0 rfl (lv_at hl 0 rfl) ?_
  refine lv_sipush (v := (-1000 : Int32)) hx hb dX4_isNumber_1 (by decide) ?_
  refine lv_sipush (v := (1000 : Int32)) hx hb dX4_isNumber_4 (by decide) ?_
  obtain ⟨x7, hg7, hf⟩ := pr_b hf
  refine pw_cSiE (As := [.int v0, .int (-1000 : Int32), .int (1000 : Int32)]) (rest := []) ⟨hx, hb, hml, hown, hts⟩ (c_X4_isIn (D := D) (tys := tys) v0 (-1000 : Int32) (1000 : Int32) hg7) (va_cwS 3 hts gX4_isNumber_X4_isIn rfl rfl rfl (by decide +kernel) ⟨Nat.le_of_ble_eq_true rfl, Nat.le_of_ble_eq_true rfl⟩) hK hP hD hS hA rfl hl.1 rfl (Nat.le_of_ble_eq_true rfl) dX4_isNumber_7 ⟨Nat.le_of_ble_eq_true rfl, Nat.le_of_ble_eq_true rfl⟩ (fun H locs hP hD hS => ?_)
  obtain ⟨hn, hf⟩ := pr_nz hf
  obtain rfl := Option.some.inj hf
  subst hZ
  exact pw_rz hx hb hr hlocks hn hK hP hD hS (Nat.le_of_ble_eq_true rfl) (Nat.le_of_ble_eq_true rfl) dX4_isNumber_10
