def fJ6_bitCount_0f7a4 (x0 : Int32) : Int32 :=
  nm (x0 - (((x0.toUInt32 >>> ((1 : Int32).toUInt32 &&& Int32.toUInt32 31)).toInt32) &&& (1431655765 : Int32))) fun v1 => nm ((v1 &&& (858993459 : Int32)) + (((v1.toUInt32 >>> ((2 : Int32).toUInt32 &&& Int32.toUInt32 31)).toInt32) &&& (858993459 : Int32))) fun v2 => nm ((v2 + ((v2.toUInt32 >>> ((4 : Int32).toUInt32 &&& Int32.toUInt32 31)).toInt32)) &&& (252645135 : Int32)) fun v3 => nm (v3 + ((v3.toUInt32 >>> ((8 : Int32).toUInt32 &&& Int32.toUInt32 31)).toInt32)) fun v4 => nm (v4 + ((v4.toUInt32 >>> ((16 : Int32).toUInt32 &&& Int32.toUInt32 31)).toInt32)) fun v5 => v5 &&& (63 : Int32)
set_option maxHeartbeats 4000000 in
set_option maxRecDepth 100000 in
theorem mJ6_bitCount_0f7a4 {l : Launch} {D : va_G} {cy : Nat → ClassId} {A : Nat → Prop} {K : KC} {cn : Nat → Nat} {ad : Nat → Nat → Nat} (hZk : ZOK A (ZC A K)) (x0 : Int32) (M0 : Mem) (r : Int32) (h : fJ6_bitCount_0f7a4 x0 = r) : Met l yJ6_bitCount_0f7a4 (wt yJ6_bitCount_0f7a4 cJ6_bitCount_0f7a4 1 (some .int)) (rm 0 0) (CPre D cy A (ZC A K) cn ad M0 [.int x0]) (QI D cy A cn ad r M0) 0 0 A := by
  refine tb_start [.int x0] [(0, .int x0)] RJ6 rfl (by decide +kernel) (Nat.le_of_ble_eq_true rfl) rfl (fun p e s m args below meth c hx hb hr hml hown hts hlk hW hK hZ ls hl => ?_)
  have hS : va_S A s.heap s.heap [] := va_S.rf
  unfold fJ6_bitCount_0f7a4 at h
  refine lv_iload_n hx hb dJ6_bitCount_0f7a4_0 rfl (lv_at hl 0 rfl) ?_
  refine lv_iload_n hx hb dJ6_bitCount_0f7a4_1 rfl (lv_at hl 0 rfl) ?_
  refine lv_iconst (v := (1 : Int32)) hx hb dJ6_bitCount_0f7a4_2 (by decide) ?_
  refine lv_iushr hx hb dJ6_bitCount_0f7a4_3 rfl ?_
  refine lv_ldcw hx hb hown (hts _ tw765) dJ6_bitCount_0f7a4_4 ?_
  refine lv_iand hx hb dJ6_bitCount_0f7a4_7 ?_
  refine lv_isub hx hb dJ6_bitCount_0f7a4_8 ?_
  refine lv_topi (fun v1 ev1 => ?_)
  replace h := nm_a ev1 h
  refine lv_istore_n (lv' := [(0, .int v1)]) hx hb dJ6_bitCount_0f7a4_9 rfl hl (by decide) rfl (fun ls hl => ?_)
  refine lv_iload_n hx hb dJ6_bitCount_0f7a4_10 rfl (lv_at hl 0 rfl) ?_
  refine lv_ldcw hx hb hown (hts _ tw766) dJ6_bitCount_0f7a4_11 ?_
  refine lv_iand hx hb dJ6_bitCount_0f7a4_14 ?_
  refine lv_iload_n hx hb dJ6_bitCount_0f7a4_15 rfl (lv_at hl 0 rfl) ?_
  refine lv_iconst (v := (2 : Int32)) hx hb dJ6_bitCount_0f7a4_16 (by decide) ?_
  refine lv_iushr hx hb dJ6_bitCount_0f7a4_17 rfl ?_
  refine lv_ldcw hx hb hown (hts _ tw766) dJ6_bitCount_0f7a4_18 ?_
  refine lv_iand hx hb dJ6_bitCount_0f7a4_21 ?_
  refine lv_iadd hx hb dJ6_bitCount_0f7a4_22 ?_
  refine lv_topi (fun v2 ev2 => ?_)
  replace h := nm_a ev2 h
  refine lv_istore_n (lv' := [(0, .int v2)]) hx hb dJ6_bitCount_0f7a4_23 rfl hl (by decide) rfl (fun ls hl => ?_)
  refine lv_iload_n hx hb dJ6_bitCount_0f7a4_24 rfl (lv_at hl 0 rfl) ?_
  refine lv_iload_n hx hb dJ6_bitCount_0f7a4_25 rfl (lv_at hl 0 rfl) ?_
  refine lv_iconst (v := (4 : Int32)) hx hb dJ6_bitCount_0f7a4_26 (by decide) ?_
  refine lv_iushr hx hb dJ6_bitCount_0f7a4_27 rfl ?_
  refine lv_iadd hx hb dJ6_bitCount_0f7a4_28 ?_
  refine lv_ldcw hx hb hown (hts _ tw767) dJ6_bitCount_0f7a4_29 ?_
  refine lv_iand hx hb dJ6_bitCount_0f7a4_32 ?_
  refine lv_topi (fun v3 ev3 => ?_)
  replace h := nm_a ev3 h
  refine lv_istore_n (lv' := [(0, .int v3)]) hx hb dJ6_bitCount_0f7a4_33 rfl hl (by decide) rfl (fun ls hl => ?_)
  refine lv_iload_n hx hb dJ6_bitCount_0f7a4_34 rfl (lv_at hl 0 rfl) ?_
  refine lv_iload_n hx hb dJ6_bitCount_0f7a4_35 rfl (lv_at hl 0 rfl) ?_
  refine lv_bipush (v := (8 : Int32)) hx hb dJ6_bitCount_0f7a4_36 (by decide) ?_
  refine lv_iushr hx hb dJ6_bitCount_0f7a4_38 rfl ?_
  refine lv_iadd hx hb dJ6_bitCount_0f7a4_39 ?_
  refine lv_topi (fun v4 ev4 => ?_)
  replace h := nm_a ev4 h
  refine lv_istore_n (lv' := [(0, .int v4)]) hx hb dJ6_bitCount_0f7a4_40 rfl hl (by decide) rfl (fun ls hl => ?_)
  refine lv_iload_n hx hb dJ6_bitCount_0f7a4_41 rfl (lv_at hl 0 rfl) ?_
  refine lv_iload_n hx hb dJ6_bitCount_0f7a4_42 rfl (lv_at hl 0 rfl) ?_
  refine lv_bipush (v := (16 : Int32)) hx hb dJ6_bitCount_0f7a4_43 (by decide) ?_
  refine lv_iushr hx hb dJ6_bitCount_0f7a4_45 rfl ?_
  refine lv_iadd hx hb dJ6_bitCount_0f7a4_46 ?_
  refine lv_topi (fun v5 ev5 => ?_)
  replace h := nm_a ev5 h
  refine lv_istore_n (lv' := [(0, .int v5)]) hx hb dJ6_bitCount_0f7a4_47 rfl hl (by decide) rfl (fun ls hl => ?_)
  refine lv_iload_n hx hb dJ6_bitCount_0f7a4_48 rfl (lv_at hl 0 rfl) ?_
  refine lv_bipush (v := (63 : Int32)) hx hb dJ6_bitCount_0f7a4_49 (by decide) ?_
  refine lv_iand hx hb dJ6_bitCount_0f7a4_51 ?_
  exact tb_iretP h hx hb hr hS hW hlk dJ6_bitCount_0f7a4_52
def fJ13_bitCount_95d88 (x0 : Int64) : Int32 :=
  nm (x0 - (((x0.toUInt64 >>> ((1 : Int32).toInt64.toUInt64 &&& Int64.toUInt64 63)).toInt64) &&& (6148914691236517205 : Int64))) fun v1 => nm ((v1 &&& (3689348814741910323 : Int64)) + (((v1.toUInt64 >>> ((2 : Int32).toInt64.toUInt64 &&& Int64.toUInt64 63)).toInt64) &&& (3689348814741910323 : Int64))) fun v2 => nm ((v2 + ((v2.toUInt64 >>> ((4 : Int32).toInt64.toUInt64 &&& Int64.toUInt64 63)).toInt64)) &&& (1085102592571150095 : Int64)) fun v3 => nm (v3 + ((v3.toUInt64 >>> ((8 : Int32).toInt64.toUInt64 &&& Int64.toUInt64 63)).toInt64)) fun v4 => nm (v4 + ((v4.toUInt64 >>> ((16 : Int32).toInt64.toUInt64 &&& Int64.toUInt64 63)).toInt64)) fun v5 => nm (v5 + ((v5.toUInt64 >>> ((32 : Int32).toInt64.toUInt64 &&& Int64.toUInt64 63)).toInt64)) fun v6 => v6.toInt32 &&& (127 : Int32)
set_option maxHeartbeats 4000000 in
set_option maxRecDepth 100000 in
theorem mJ13_bitCount_95d88 {l : Launch} {D : va_G} {cy : Nat → ClassId} {A : Nat → Prop} {K : KC} {cn : Nat → Nat} {ad : Nat → Nat → Nat} (hZk : ZOK A (ZC A K)) (x0 : Int64) (M0 : Mem) (r : Int32) (h : fJ13_bitCount_95d88 x0 = r) : Met l yJ13_bitCount_95d88 (wt yJ13_bitCount_95d88 cJ13_bitCount_95d88 2 (some .int)) (rm 0 0) (CPre D cy A (ZC A K) cn ad M0 [.long x0]) (QI D cy A cn ad r M0) 0 0 A := by
  refine tb_start [.long x0] [(0, .long x0)] RJ13 rfl (by decide +kernel) (Nat.le_of_ble_eq_true rfl) rfl (fun p e s m args below meth c hx hb hr hml hown hts hlk hW hK hZ ls hl => ?_)
  have hS : va_S A s.heap s.heap [] := va_S.rf
  unfold fJ13_bitCount_95d88 at h
  refine lv_lload_n hx hb dJ13_bitCount_95d88_0 rfl (lv_at hl 0 rfl) ?_
  refine lv_lload_n hx hb dJ13_bitCount_95d88_1 rfl (lv_at hl 0 rfl) ?_
  refine lv_iconst (v := (1 : Int32)) hx hb dJ13_bitCount_95d88_2 (by decide) ?_
  refine lv_lushr hx hb dJ13_bitCount_95d88_3 rfl ?_
  refine lv_ldc2 hx hb hown (hts _ tw665) dJ13_bitCount_95d88_4 ?_
  refine lv_land hx hb dJ13_bitCount_95d88_7 ?_
  refine lv_lsub hx hb dJ13_bitCount_95d88_8 ?_
  refine lv_topl (fun v1 ev1 => ?_)
  replace h := nm_a ev1 h
  refine lv_lstore_n (lv' := [(0, .long v1)]) hx hb dJ13_bitCount_95d88_9 rfl hl (by decide) rfl (fun ls hl => ?_)
  refine lv_lload_n hx hb dJ13_bitCount_95d88_10 rfl (lv_at hl 0 rfl) ?_
  refine lv_ldc2 hx hb hown (hts _ tw666) dJ13_bitCount_95d88_11 ?_
  refine lv_land hx hb dJ13_bitCount_95d88_14 ?_
  refine lv_lload_n hx hb dJ13_bitCount_95d88_15 rfl (lv_at hl 0 rfl) ?_
  refine lv_iconst (v := (2 : Int32)) hx hb dJ13_bitCount_95d88_16 (by decide) ?_
  refine lv_lushr hx hb dJ13_bitCount_95d88_17 rfl ?_
  refine lv_ldc2 hx hb hown (hts _ tw666) dJ13_bitCount_95d88_18 ?_
  refine lv_land hx hb dJ13_bitCount_95d88_21 ?_
  refine lv_ladd hx hb dJ13_bitCount_95d88_22 ?_
  refine lv_topl (fun v2 ev2 => ?_)
  replace h := nm_a ev2 h
  refine lv_lstore_n (lv' := [(0, .long v2)]) hx hb dJ13_bitCount_95d88_23 rfl hl (by decide) rfl (fun ls hl => ?_)
  refine lv_lload_n hx hb dJ13_bitCount_95d88_24 rfl (lv_at hl 0 rfl) ?_
  refine lv_lload_n hx hb dJ13_bitCount_95d88_25 rfl (lv_at hl 0 rfl) ?_
  refine lv_iconst (v := (4 : Int32)) hx hb dJ13_bitCount_95d88_26 (by decide) ?_
  refine lv_lushr hx hb dJ13_bitCount_95d88_27 rfl ?_
  refine lv_ladd hx hb dJ13_bitCount_95d88_28 ?_
  refine lv_ldc2 hx hb hown (hts _ tw667) dJ13_bitCount_95d88_29 ?_
  refine lv_land hx hb dJ13_bitCount_95d88_32 ?_
  refine lv_topl (fun v3 ev3 => ?_)
  replace h := nm_a ev3 h
  refine lv_lstore_n (lv' := [(0, .long v3)]) hx hb dJ13_bitCount_95d88_33 rfl hl (by decide) rfl (fun ls hl => ?_)
  refine lv_lload_n hx hb dJ13_bitCount_95d88_34 rfl (lv_at hl 0 rfl) ?_
  refine lv_lload_n hx hb dJ13_bitCount_95d88_35 rfl (lv_at hl 0 rfl) ?_
  refine lv_bipush (v := (8 : Int32)) hx hb dJ13_bitCount_95d88_36 (by decide) ?_
  refine lv_lushr hx hb dJ13_bitCount_95d88_38 rfl ?_
  refine lv_ladd hx hb dJ13_bitCount_95d88_39 ?_
  refine lv_topl (fun v4 ev4 => ?_)
  replace h := nm_a ev4 h
  refine lv_lstore_n (lv' := [(0, .long v4)]) hx hb dJ13_bitCount_95d88_40 rfl hl (by decide) rfl (fun ls hl => ?_)
  refine lv_lload_n hx hb dJ13_bitCount_95d88_41 rfl (lv_at hl 0 rfl) ?_
  refine lv_lload_n hx hb dJ13_bitCount_95d88_42 rfl (lv_at hl 0 rfl) ?_
  refine lv_bipush (v := (16 : Int32)) hx hb dJ13_bitCount_95d88_43 (by decide) ?_
  refine lv_lushr hx hb dJ13_bitCount_95d88_45 rfl ?_
  refine lv_ladd hx hb dJ13_bitCount_95d88_46 ?_
  refine lv_topl (fun v5 ev5 => ?_)
  replace h := nm_a ev5 h
  refine lv_lstore_n (lv' := [(0, .long v5)]) hx hb dJ13_bitCount_95d88_47 rfl hl (by decide) rfl (fun ls hl => ?_)
  refine lv_lload_n hx hb dJ13_bitCount_95d88_48 rfl (lv_at hl 0 rfl) ?_
  refine lv_lload_n hx hb dJ13_bitCount_95d88_49 rfl (lv_at hl 0 rfl) ?_
  refine lv_bipush (v := (32 : Int32)) hx hb dJ13_bitCount_95d88_50 (by decide) ?_
  refine lv_lushr hx hb dJ13_bitCount_95d88_52 rfl ?_
  refine lv_ladd hx hb dJ13_bitCount_95d88_53 ?_
  refine lv_topl (fun v6 ev6 => ?_)
  replace h := nm_a ev6 h
  refine lv_lstore_n (lv' := [(0, .long v6)]) hx hb dJ13_bitCount_95d88_54 rfl hl (by decide) rfl (fun ls hl => ?_)
  refine lv_lload_n hx hb dJ13_bitCount_95d88_55 rfl (lv_at hl 0 rfl) ?_
  refine lv_l2i hx hb dJ13_bitCount_95d88_56 rfl ?_
  refine lv_bipush (v := (127 : Int32)) hx hb dJ13_bitCount_95d88_57 (by decide) ?_
  refine lv_iand hx hb dJ13_bitCount_95d88_59 ?_
  exact tb_iretP h hx hb hr hS hW hlk dJ13_bitCount_95d88_60
def fJ0_coder_7d493 (th : Nat) (M0 : Mem) : Int32 :=
  (0 : Int32)
set_option maxHeartbeats 4000000 in
set_option maxRecDepth 100000 in
theorem mJ0_coder_7d493 {l : Launch} {D : va_G} {cy : Nat → ClassId} {A : Nat → Prop} {K : KC} {cn : Nat → Nat} {ad : Nat → Nat → Nat} (hZk : ZOK A (ZC A K)) (th : Nat) (M0 : Mem) (hth : th < 12) (r : Int32) (h : fJ0_coder_7d493 th M0 = r) : Met l yJ0_coder_7d493 (wt yJ0_coder_7d493 cJ0_coder_7d493 1 (some .byte)) (rm 0 0) (CPre D cy A (ZC A K) cn ad M0 [.ref (K.1 th)]) (QI D cy A cn ad r M0) 0 0 A := by
  refine tb_start [.ref (K.1 th)] [(0, .ref (K.1 th))] RJ0 rfl (by decide +kernel) (Nat.le_of_ble_eq_true rfl) rfl (fun p e s m args below meth c hx hb hr hml hown hts hlk hW hK hZ ls hl => ?_)
  have hS : va_S A s.heap s.heap [] := va_S.rf
  unfold fJ0_coder_7d493 at h
  refine va_gets hx hb hZ.2.2.1 hS hown (hts _ tw231) (fun _ h9 => h9) dJ0_coder_7d493_0 ?_
  refine lv_if_eq (tgt := 13) hx hb dJ0_coder_7d493_3 (by decide) (fun hc => absurd hc (by decide)) (fun _ => ?_)
  refine lv_aload_n hx hb dJ0_coder_7d493_6 rfl (lv_at hl 0 rfl) ?_
  refine vk_getf hx hb ((hZ.1 _ hth).2.1) hS hown (hts _ tw1789) (fun _ h9 => h9) dJ0_coder_7d493_7 ?_
  refine lv_goto (tgt := 14) hx hb dJ0_coder_7d493_10 (by decide) ?_
  exact tb_bretP h hx hb hr hS hW hlk rfl dJ0_coder_7d493_14
def fJ0_length_8abf5 (th : Nat) (M0 : Mem) : Int32 :=
  (nI (slen th)) >>> ((0 : Int32) &&& 31)
set_option maxHeartbeats 4000000 in
set_option maxRecDepth 100000 in
theorem mJ0_length_8abf5 {l : Launch} {D : va_G} {cy : Nat → ClassId} {A : Nat → Prop} {K : KC} {cn : Nat → Nat} {ad : Nat → Nat → Nat} (hZk : ZOK A (ZC A K)) (th : Nat) (M0 : Mem) (hth : th < 12) (r : Int32) (h : fJ0_length_8abf5 th M0 = r) : Met l yJ0_length_8abf5 (wt yJ0_length_8abf5 cJ0_length_8abf5 1 (some .int)) (rm 1 20) (CPre D cy A (ZC A K) cn ad M0 [.ref (K.1 th)]) (QI D cy A cn ad r M0) 0 0 A := by
  refine tb_start [.ref (K.1 th)] [(0, .ref (K.1 th))] RJ0 rfl (by decide +kernel) (Nat.le_of_ble_eq_true rfl) rfl (fun p e s m args below meth c hx hb hr hml hown hts hlk hW hK hZ ls hl => ?_)
  have hS : va_S A s.heap s.heap [] := va_S.rf
  unfold fJ0_length_8abf5 at h
  refine lv_aload_n hx hb dJ0_length_8abf5_0 rfl (lv_at hl 0 rfl) ?_
  refine vk_getf hx hb ((hZ.1 _ hth).2.2.1) hS hown (hts _ tw1788) (fun _ h9 => h9) dJ0_length_8abf5_1 ?_
  refine tb_Talen hx hb ((hZ.1 _ hth).2.2.2) hS dJ0_length_8abf5_4 ?_
  refine lv_aload_n hx hb dJ0_length_8abf5_5 rfl (lv_at hl 0 rfl) ?_
  refine tb_cVI hZk hx hb hml hown hts hK hZ hW hS [] (mJ0_coder_7d493 (l := l) hZk th M0 hth (0 : Int32) rfl) pmJ0_coder_7d493 tw227 (tb_Trecv ((hZ.1 _ hth).1) hS) ⟨Nat.le_of_ble_eq_true rfl, Nat.le_of_ble_eq_true rfl⟩ rfl hl.1 (Nat.le_of_ble_eq_true rfl) ⟨Nat.le_refl _, Nat.le_refl _⟩ rfl dJ0_length_8abf5_6 (fun H locs hW hS => ?_)
  refine lv_ishr hx hb dJ0_length_8abf5_9 ?_
  exact tb_iretP h hx hb hr hS hW hlk dJ0_length_8abf5_10
def fJ0_isLatin1_aae02 (th : Nat) (M0 : Mem) : Int32 :=
  (1 : Int32)
set_option maxHeartbeats 4000000 in
set_option maxRecDepth 100000 in
theorem mJ0_isLatin1_aae02 {l : Launch} {D : va_G} {cy : Nat → ClassId} {A : Nat → Prop} {K : KC} {cn : Nat → Nat} {ad : Nat → Nat → Nat} (hZk : ZOK A (ZC A K)) (th : Nat) (M0 : Mem) (hth : th < 12) (r : Int32) (h : fJ0_isLatin1_aae02 th M0 = r) : Met l yJ0_isLatin1_aae02 (wt yJ0_isLatin1_aae02 cJ0_isLatin1_aae02 1 (some .boolean)) (rm 0 0) (CPre D cy A (ZC A K) cn ad M0 [.ref (K.1 th)]) (QZ D cy A cn ad r M0) 0 0 A := by
  refine tb_start [.ref (K.1 th)] [(0, .ref (K.1 th))] RJ0 rfl (by decide +kernel) (Nat.le_of_ble_eq_true rfl) rfl (fun p e s m args below meth c hx hb hr hml hown hts hlk hW hK hZ ls hl => ?_)
  have hS : va_S A s.heap s.heap [] := va_S.rf
  unfold fJ0_isLatin1_aae02 at h
  refine va_gets hx hb hZ.2.2.1 hS hown (hts _ tw231) (fun _ h9 => h9) dJ0_isLatin1_aae02_0 ?_
  refine lv_if_eq (tgt := 17) hx hb dJ0_isLatin1_aae02_3 (by decide) (fun hc => absurd hc (by decide)) (fun _ => ?_)
  refine lv_aload_n hx hb dJ0_isLatin1_aae02_6 rfl (lv_at hl 0 rfl) ?_
  refine vk_getf hx hb ((hZ.1 _ hth).2.1) hS hown (hts _ tw1789) (fun _ h9 => h9) dJ0_isLatin1_aae02_7 ?_
  refine lv_if_ne (tgt := 17) hx hb dJ0_isLatin1_aae02_10 (by decide) (fun hc => absurd hc (by decide)) (fun _ => ?_)
  refine lv_iconst (v := (1 : Int32)) hx hb dJ0_isLatin1_aae02_13 (by decide) ?_
  refine lv_goto (tgt := 18) hx hb dJ0_isLatin1_aae02_14 (by decide) ?_
  exact tb_zretP h hx hb hr hS hW hlk (by decide) dJ0_isLatin1_aae02_18
def fJ1_canEncode_9a6ad (x0 : Int32) : Int32 :=
  if x0 < 0 then ((0 : Int32)) else (if (255 : Int32) < x0 then ((0 : Int32)) else ((1 : Int32)))
set_option maxHeartbeats 4000000 in
set_option maxRecDepth 100000 in
theorem mJ1_canEncode_9a6ad {l : Launch} {D : va_G} {cy : Nat → ClassId} {A : Nat → Prop} {K : KC} {cn : Nat → Nat} {ad : Nat → Nat → Nat} (hZk : ZOK A (ZC A K)) (x0 : Int32) (M0 : Mem) (r : Int32) (h : fJ1_canEncode_9a6ad x0 = r) : Met l yJ1_canEncode_9a6ad (wt yJ1_canEncode_9a6ad cJ1_canEncode_9a6ad 1 (some .boolean)) (rm 0 0) (CPre D cy A (ZC A K) cn ad M0 [.int x0]) (QZ D cy A cn ad r M0) 0 0 A := by
  refine tb_start [.int x0] [(0, .int x0)] RJ1 rfl (by decide +kernel) (Nat.le_of_ble_eq_true rfl) rfl (fun p e s m args below meth c hx hb hr hml hown hts hlk hW hK hZ ls hl => ?_)
  have hS : va_S A s.heap s.heap [] := va_S.rf
  unfold fJ1_canEncode_9a6ad at h
  refine lv_iload_n hx hb dJ1_canEncode_9a6ad_0 rfl (lv_at hl 0 rfl) ?_
  refine lv_if_lt (tgt := 15) hx hb dJ1_canEncode_9a6ad_1 (by decide) (fun c1 => ?_) (fun c1 => ?_)
  · replace h := sh_t c1 h
    refine lv_iconst (v := (0 : Int32)) hx hb dJ1_canEncode_9a6ad_15 (by decide) ?_
    exact tb_zretP h hx hb hr hS hW hlk (by decide) dJ1_canEncode_9a6ad_16
  · replace h := sh_f c1 h
    refine lv_iload_n hx hb dJ1_canEncode_9a6ad_4 rfl (lv_at hl 0 rfl) ?_
    refine lv_sipush (v := (255 : Int32)) hx hb dJ1_canEncode_9a6ad_5 (by decide) ?_
    refine lv_icmp_gt (tgt := 15) hx hb dJ1_canEncode_9a6ad_8 (by decide) (fun c2 => ?_) (fun c2 => ?_)
    · replace h := sh_t c2 h
      refine lv_iconst (v := (0 : Int32)) hx hb dJ1_canEncode_9a6ad_15 (by decide) ?_
      exact tb_zretP h hx hb hr hS hW hlk (by decide) dJ1_canEncode_9a6ad_16
    · replace h := sh_f c2 h
      refine lv_iconst (v := (1 : Int32)) hx hb dJ1_canEncode_9a6ad_11 (by decide) ?_
      refine lv_goto (tgt := 16) hx hb dJ1_canEncode_9a6ad_12 (by decide) ?_
      exact tb_zretP h hx hb hr hS hW hlk (by decide) dJ1_canEncode_9a6ad_16
def fJ1_indexOfChar_4cfef_b7 (x3 : Int32) (x0 : Nat) (v1 : Int32) (k2 : Int32 → Option Int32) (i3 : Int32) : Option Int32 :=
  if x3 ≤ i3 then (some (-1 : Int32)) else (ix i3 (slen x0) <| if (sbt x0 i3.toNatClampNeg) = v1 then (some i3) else (nm (i3 + (1 : Int32)) fun v6 => k2 v6))
def fJ1_indexOfChar_4cfef_l7 (x3 : Int32) (x0 : Nat) (v1 : Int32) : Nat → Int32 → Option Int32
  | 0, _ => none
  | n + 1, i3 => fJ1_indexOfChar_4cfef_b7 x3 x0 v1 (fJ1_indexOfChar_4cfef_l7 x3 x0 v1 n) i3
def fJ1_indexOfChar_4cfef (x0 : Nat) (x1 : Int32) (x2 : Int32) (x3 : Int32) (M0 : Mem) : Option Int32 :=
  nm x1.toInt8.toInt32 fun v1 => fJ1_indexOfChar_4cfef_l7 x3 x0 v1 FU x2
set_option maxHeartbeats 4000000 in
set_option maxRecDepth 100000 in
theorem mJ1_indexOfChar_4cfef {l : Launch} {D : va_G} {cy : Nat → ClassId} {A : Nat → Prop} {K : KC} {cn : Nat → Nat} {ad : Nat → Nat → Nat} (hZk : ZOK A (ZC A K)) (x0 : Nat) (x1 : Int32) (x2 : Int32) (x3 : Int32) (M0 : Mem) (hx0 : x0 < 12) (r : Int32) (h : fJ1_indexOfChar_4cfef x0 x1 x2 x3 M0 = some r) : Met l yJ1_indexOfChar_4cfef (wt yJ1_indexOfChar_4cfef cJ1_indexOfChar_4cfef 6 (some .int)) (rm 0 0) (CPre D cy A (ZC A K) cn ad M0 [.ref (K.2.1 x0), .int x1, .int x2, .int x3]) (QI D cy A cn ad r M0) 0 0 A := by
  refine tb_start [.ref (K.2.1 x0), .int x1, .int x2, .int x3] [(0, .ref (K.2.1 x0)), (1, .int x1), (2, .int x2), (3, .int x3)] RJ1 rfl (by decide +kernel) (Nat.le_of_ble_eq_true rfl) rfl (fun p e s m args below meth c hx hb hr hml hown hts hlk hW hK hZ ls hl => ?_)
  have hS : va_S A s.heap s.heap [] := va_S.rf
  unfold fJ1_indexOfChar_4cfef at h
  refine lv_iload_n hx hb dJ1_indexOfChar_4cfef_0 rfl (lv_at hl 1 rfl) ?_
  refine lv_i2b hx hb dJ1_indexOfChar_4cfef_1 rfl ?_
  refine lv_topi (fun v1 ev1 => ?_)
  replace h := nm_a ev1 h
  refine lv_istore (lv' := [(4, .int v1), (0, .ref (K.2.1 x0)), (1, .int x1), (2, .int x2), (3, .int x3)]) hx hb dJ1_indexOfChar_4cfef_2 hl (by decide) rfl (fun ls hl => ?_)
  refine lv_iload_n hx hb dJ1_indexOfChar_4cfef_4 rfl (lv_at hl 3 rfl) ?_
  refine lv_istore (lv' := [(5, .int x2), (4, .int v1), (0, .ref (K.2.1 x0)), (1, .int x1), (2, .int x2), (3, .int x3)]) hx hb dJ1_indexOfChar_4cfef_5 hl (by decide) rfl (fun ls hl => ?_)
  have L2 : ∀ (n2 : Nat) (i3 : Int32) (H : Heap) (locs : List Loc) (ls : Array Slot), Wd D cy A cn ad M0 H → va_S A s.heap H locs → lv_has ls 6 [(0, .ref (K.2.1 x0)), (3, .int x3), (4, .int v1), (5, .int i3)] → fJ1_indexOfChar_4cfef_l7 x3 x0 v1 n2 i3 = some r → W p l e (rm 0 0) s m args below meth c H locs 0 0 (MQ below (QI D cy A cn ad r M0) args s 0 0 A) (F0 m 7 ls []) := by
    intro n2
    induction n2 with
    | zero => intro i3 H locs ls hW hS hl h; cases h
    | succ n2 ih2 =>
      intro i3 H locs ls hW hS hl h
      unfold fJ1_indexOfChar_4cfef_l7 fJ1_indexOfChar_4cfef_b7 at h
      refine lv_iload hx hb dJ1_indexOfChar_4cfef_7 (lv_at hl 3 rfl) ?_
      refine lv_iload_n hx hb dJ1_indexOfChar_4cfef_9 rfl (lv_at hl 1 rfl) ?_
      refine lv_icmp_ge (tgt := 31) hx hb dJ1_indexOfChar_4cfef_10 (by decide) (fun c4 => ?_) (fun c4 => ?_)
      · replace h := sh_t c4 h
        refine lv_iconst (v := (-1 : Int32)) hx hb dJ1_indexOfChar_4cfef_31 (by decide) ?_
        exact tb_iretO h hx hb hr hS hW hlk dJ1_indexOfChar_4cfef_32
      · replace h := sh_f c4 h
        refine lv_aload_n hx hb dJ1_indexOfChar_4cfef_13 rfl (lv_at hl 0 rfl) ?_
        refine lv_iload hx hb dJ1_indexOfChar_4cfef_14 (lv_at hl 3 rfl) ?_
        replace h := ix_a h
        obtain ⟨hj, h⟩ := h
        refine tb_Tbald hx hb ((hZ.1 _ hx0).2.2.2) hS hj dJ1_indexOfChar_4cfef_16 ?_
        refine lv_iload hx hb dJ1_indexOfChar_4cfef_17 (lv_at hl 2 rfl) ?_
        refine lv_icmp_ne (tgt := 25) hx hb dJ1_indexOfChar_4cfef_19 (by decide) (fun c5 => ?_) (fun c5 => ?_)
        · replace h := sh_f c5 h
          obtain ⟨v6, ev6⟩ : ∃ y : Int32, y = i3 + (1 : Int32) := ⟨_, rfl⟩
          replace h := nm_a ev6 h
          refine lv_iinc (v := v6) (lv' := [(5, .int v6), (0, .ref (K.2.1 x0)), (3, .int x3), (4, .int v1)]) hx hb dJ1_indexOfChar_4cfef_25 hl (k := 3) rfl (by rw [ev6]; rfl) (by decide) rfl (fun ls hl => ?_)
          refine lv_goto (tgt := 7) hx hb dJ1_indexOfChar_4cfef_28 (by decide) ?_
          exact ih2 v6 _ _ _ hW hS (lv_sub hl [1, 2, 3, 0] rfl) h
        · replace h := sh_t c5 h
          refine lv_iload hx hb dJ1_indexOfChar_4cfef_22 (lv_at hl 3 rfl) ?_
          exact tb_iretO h hx hb hr hS hW hlk dJ1_indexOfChar_4cfef_24
  exact L2 FU x2 _ _ _ hW hS (lv_sub hl [2, 5, 1, 0] rfl) h
def fJ1_indexOf_4cfef (x0 : Nat) (x1 : Int32) (x2 : Int32) (x3 : Int32) (M0 : Mem) : Option Int32 :=
  nm (fJ1_canEncode_9a6ad x1) fun b1 => if b1 = 0 then (some (-1 : Int32)) else (nm (if x2 < (0 : Int32) then (0 : Int32) else x2) fun v3 => nm (if (nI (slen x0)) < x3 then (nI (slen x0)) else x3) fun v4 => if v3 < v4 then (bd (fJ1_indexOfChar_4cfef x0 x1 v3 v4 M0) fun b6 => some b6) else (some (-1 : Int32)))
set_option maxHeartbeats 4000000 in
set_option maxRecDepth 100000 in
theorem mJ1_indexOf_4cfef {l : Launch} {D : va_G} {cy : Nat → ClassId} {A : Nat → Prop} {K : KC} {cn : Nat → Nat} {ad : Nat → Nat → Nat} (hZk : ZOK A (ZC A K)) (x0 : Nat) (x1 : Int32) (x2 : Int32) (x3 : Int32) (M0 : Mem) (hx0 : x0 < 12) (r : Int32) (h : fJ1_indexOf_4cfef x0 x1 x2 x3 M0 = some r) : Met l yJ1_indexOf_4cfef (wt yJ1_indexOf_4cfef cJ1_indexOf_4cfef 4 (some .int)) (rm 1 40) (CPre D cy A (ZC A K) cn ad M0 [.ref (K.2.1 x0), .int x1, .int x2, .int x3]) (QI D cy A cn ad r M0) 0 0 A := by
  refine tb_start [.ref (K.2.1 x0), .int x1, .int x2, .int x3] [(0, .ref (K.2.1 x0)), (1, .int x1), (2, .int x2), (3, .int x3)] RJ1 rfl (by decide +kernel) (Nat.le_of_ble_eq_true rfl) rfl (fun p e s m args below meth c hx hb hr hml hown hts hlk hW hK hZ ls hl => ?_)
  have hS : va_S A s.heap s.heap [] := va_S.rf
  unfold fJ1_indexOf_4cfef at h
  refine lv_iload_n hx hb dJ1_indexOf_4cfef_0 rfl (lv_at hl 1 rfl) ?_
  refine tb_cSZ hZk hx hb hml hown hts hK hZ hW hS [.int x1] (mJ1_canEncode_9a6ad (l := l) hZk x1 M0 (fJ1_canEncode_9a6ad x1) rfl) pmJ1_canEncode_9a6ad tw849 ⟨Nat.le_of_ble_eq_true rfl, Nat.le_of_ble_eq_true rfl⟩ rfl hl.1 (Nat.le_of_ble_eq_true rfl) ⟨Nat.le_refl _, Nat.le_refl _⟩ rfl dJ1_indexOf_4cfef_1 (fun H locs hW hS hzz => ?_)
  refine lv_topi (fun b1 eb1 => ?_)
  replace h := nm_a eb1 h
  have hzb1 : b1 = 0 ∨ b1 = 1 := by rw [eb1]; exact hzz
  refine lv_if_ne (tgt := 9) hx hb dJ1_indexOf_4cfef_4 (by decide) (fun c2 => ?_) (fun c2 => ?_)
  · replace h := sh_f c2 h
    refine lv_iload_n hx hb dJ1_indexOf_4cfef_9 rfl (lv_at hl 2 rfl) ?_
    refine lv_iconst (v := (0 : Int32)) hx hb dJ1_indexOf_4cfef_10 (by decide) ?_
    refine va_mmax hx hb (hml.trans hl.1.symm) hown (hts _ tw852) (hts _ tw656) (hts _ tw91) (hts _ tw657) (Nat.le_of_ble_eq_true rfl) (by show _ ≤ _; exact Nat.le_of_ble_eq_true rfl) (Nat.le_refl _) (Nat.le_refl _) dJ1_indexOf_4cfef_11 ?_
    refine lv_topi (fun v3 ev3 => ?_)
    replace h := nm_a ev3 h
    refine lv_istore_n (lv' := [(2, .int v3), (0, .ref (K.2.1 x0)), (1, .int x1), (3, .int x3)]) hx hb dJ1_indexOf_4cfef_14 rfl hl (by decide) rfl (fun ls hl => ?_)
    refine lv_iload_n hx hb dJ1_indexOf_4cfef_15 rfl (lv_at hl 3 rfl) ?_
    refine lv_aload_n hx hb dJ1_indexOf_4cfef_16 rfl (lv_at hl 1 rfl) ?_
    refine tb_Talen hx hb ((hZ.1 _ hx0).2.2.2) hS dJ1_indexOf_4cfef_17 ?_
    refine va_mmin hx hb (hml.trans hl.1.symm) hown (hts _ tw853) (hts _ tw807) (hts _ tw91) (hts _ tw808) (Nat.le_of_ble_eq_true rfl) (by show _ ≤ _; exact Nat.le_of_ble_eq_true rfl) (Nat.le_refl _) (Nat.le_refl _) dJ1_indexOf_4cfef_18 ?_
    refine lv_topi (fun v4 ev4 => ?_)
    replace h := nm_a ev4 h
    refine lv_istore_n (lv' := [(3, .int v4), (2, .int v3), (0, .ref (K.2.1 x0)), (1, .int x1)]) hx hb dJ1_indexOf_4cfef_21 rfl hl (by decide) rfl (fun ls hl => ?_)
    refine lv_iload_n hx hb dJ1_indexOf_4cfef_22 rfl (lv_at hl 1 rfl) ?_
    refine lv_iload_n hx hb dJ1_indexOf_4cfef_23 rfl (lv_at hl 0 rfl) ?_
    refine lv_icmp_lt (tgt := 29) hx hb dJ1_indexOf_4cfef_24 (by decide) (fun c5 => ?_) (fun c5 => ?_)
    · replace h := sh_t c5 h
      refine lv_aload_n hx hb dJ1_indexOf_4cfef_29 rfl (lv_at hl 2 rfl) ?_
      refine lv_iload_n hx hb dJ1_indexOf_4cfef_30 rfl (lv_at hl 3 rfl) ?_
      refine lv_iload_n hx hb dJ1_indexOf_4cfef_31 rfl (lv_at hl 1 rfl) ?_
      refine lv_iload_n hx hb dJ1_indexOf_4cfef_32 rfl (lv_at hl 0 rfl) ?_
      replace h := bd_a h
      obtain ⟨b6, hcb6, h⟩ := h
      refine tb_cSI hZk hx hb hml hown hts hK hZ hW hS [.ref (K.2.1 x0), .int x1, .int v3, .int v4] (mJ1_indexOfChar_4cfef (l := l) hZk x0 x1 v3 v4 M0 hx0 b6 hcb6) pmJ1_indexOfChar_4cfef tw854 ⟨Nat.le_of_ble_eq_true rfl, Nat.le_of_ble_eq_true rfl⟩ rfl hl.1 (Nat.le_of_ble_eq_true rfl) ⟨Nat.le_refl _, Nat.le_refl _⟩ rfl dJ1_indexOf_4cfef_33 (fun H locs hW hS => ?_)
      exact tb_iretO h hx hb hr hS hW hlk dJ1_indexOf_4cfef_36
    · replace h := sh_f c5 h
      refine lv_iconst (v := (-1 : Int32)) hx hb dJ1_indexOf_4cfef_27 (by decide) ?_
      exact tb_iretO h hx hb hr hS hW hlk dJ1_indexOf_4cfef_28
  · replace h := sh_t c2 h
    refine lv_iconst (v := (-1 : Int32)) hx hb dJ1_indexOf_4cfef_7 (by decide) ?_
    exact tb_iretO h hx hb hr hS hW hlk dJ1_indexOf_4cfef_8
def fJ0_indexOf_7cf53 (th : Nat) (x1 : Int32) (x2 : Int32) (M0 : Mem) : Option Int32 :=
  bd (fJ1_indexOf_4cfef th x1 x2 (fJ0_length_8abf5 th M0) M0) fun b1 => some b1
set_option maxHeartbeats 4000000 in
set_option maxRecDepth 100000 in
theorem mJ0_indexOf_7cf53 {l : Launch} {D : va_G} {cy : Nat → ClassId} {A : Nat → Prop} {K : KC} {cn : Nat → Nat} {ad : Nat → Nat → Nat} (hZk : ZOK A (ZC A K)) (th : Nat) (x1 : Int32) (x2 : Int32) (M0 : Mem) (hth : th < 12) (r : Int32) (h : fJ0_indexOf_7cf53 th x1 x2 M0 = some r) : Met l yJ0_indexOf_7cf53 (wt yJ0_indexOf_7cf53 cJ0_indexOf_7cf53 3 (some .int)) (rm 2 63) (CPre D cy A (ZC A K) cn ad M0 [.ref (K.1 th), .int x1, .int x2]) (QI D cy A cn ad r M0) 0 0 A := by
  refine tb_start [.ref (K.1 th), .int x1, .int x2] [(0, .ref (K.1 th)), (1, .int x1), (2, .int x2)] RJ0 rfl (by decide +kernel) (Nat.le_of_ble_eq_true rfl) rfl (fun p e s m args below meth c hx hb hr hml hown hts hlk hW hK hZ ls hl => ?_)
  have hS : va_S A s.heap s.heap [] := va_S.rf
  unfold fJ0_indexOf_7cf53 at h
  refine lv_aload_n hx hb dJ0_indexOf_7cf53_0 rfl (lv_at hl 0 rfl) ?_
  refine tb_cVZ hZk hx hb hml hown hts hK hZ hW hS [] (mJ0_isLatin1_aae02 (l := l) hZk th M0 hth (1 : Int32) rfl) pmJ0_isLatin1_aae02 tw841 (tb_Trecv ((hZ.1 _ hth).1) hS) ⟨Nat.le_of_ble_eq_true rfl, Nat.le_of_ble_eq_true rfl⟩ rfl hl.1 (Nat.le_of_ble_eq_true rfl) ⟨Nat.le_refl _, Nat.le_refl _⟩ rfl dJ0_indexOf_7cf53_1 (fun H locs hW hS hzz => ?_)
  refine lv_if_eq (tgt := 23) hx hb dJ0_indexOf_7cf53_4 (by decide) (fun hc => absurd hc (by decide)) (fun _ => ?_)
  refine lv_aload_n hx hb dJ0_indexOf_7cf53_7 rfl (lv_at hl 0 rfl) ?_
  refine vk_getf hx hb ((hZ.1 _ hth).2.2.1) hS hown (hts _ tw1788) (fun _ h9 => h9) dJ0_indexOf_7cf53_8 ?_
  refine lv_iload_n hx hb dJ0_indexOf_7cf53_11 rfl (lv_at hl 1 rfl) ?_
  refine lv_iload_n hx hb dJ0_indexOf_7cf53_12 rfl (lv_at hl 2 rfl) ?_
  refine lv_aload_n hx hb dJ0_indexOf_7cf53_13 rfl (lv_at hl 0 rfl) ?_
  refine tb_cVI hZk hx hb hml hown hts hK hZ hW hS [] (mJ0_length_8abf5 (l := l) hZk th M0 hth (fJ0_length_8abf5 th M0) rfl) pmJ0_length_8abf5 tw845 (tb_Trecv ((hZ.1 _ hth).1) hS) ⟨Nat.le_of_ble_eq_true rfl, Nat.le_of_ble_eq_true rfl⟩ rfl hl.1 (Nat.le_of_ble_eq_true rfl) ⟨Nat.le_refl _, Nat.le_refl _⟩ rfl dJ0_indexOf_7cf53_14 (fun H locs hW hS => ?_)
  replace h := bd_a h
  obtain ⟨b1, hcb1, h⟩ := h
  refine tb_cSI hZk hx hb hml hown hts hK hZ hW hS [.ref (K.2.1 th), .int x1, .int x2, .int (fJ0_length_8abf5 th M0)] (mJ1_indexOf_4cfef (l := l) hZk th x1 x2 (fJ0_length_8abf5 th M0) M0 hth b1 hcb1) pmJ1_indexOf_4cfef tw846 ⟨Nat.le_of_ble_eq_true rfl, Nat.le_of_ble_eq_true rfl⟩ rfl hl.1 (Nat.le_of_ble_eq_true rfl) ⟨Nat.le_refl _, Nat.le_refl _⟩ rfl dJ0_indexOf_7cf53_17 (fun H locs hW hS => ?_)
  refine lv_goto (tgt := 36) hx hb dJ0_indexOf_7cf53_20 (by decide) ?_
  exact tb_iretO h hx hb hr hS hW hlk dJ0_indexOf_7cf53_36
def fJ0_indexOf_0f7a4 (th : Nat) (x1 : Int32) (M0 : Mem) : Option Int32 :=
  bd (fJ0_indexOf_7cf53 th x1 (0 : Int32) M0) fun b1 => some b1
set_option maxHeartbeats 4000000 in
set_option maxRecDepth 100000 in
theorem mJ0_indexOf_0f7a4 {l : Launch} {D : va_G} {cy : Nat → ClassId} {A : Nat → Prop} {K : KC} {cn : Nat → Nat} {ad : Nat → Nat → Nat} (hZk : ZOK A (ZC A K)) (th : Nat) (x1 : Int32) (M0 : Mem) (hth : th < 12) (r : Int32) (h : fJ0_indexOf_0f7a4 th x1 M0 = some r) : Met l yJ0_indexOf_0f7a4 (wt yJ0_indexOf_0f7a4 cJ0_indexOf_0f7a4 2 (some .int)) (rm 3 85) (CPre D cy A (ZC A K) cn ad M0 [.ref (K.1 th), .int x1]) (QI D cy A cn ad r M0) 0 0 A := by
  refine tb_start [.ref (K.1 th), .int x1] [(0, .ref (K.1 th)), (1, .int x1)] RJ0 rfl (by decide +kernel) (Nat.le_of_ble_eq_true rfl) rfl (fun p e s m args below meth c hx hb hr hml hown hts hlk hW hK hZ ls hl => ?_)
  have hS : va_S A s.heap s.heap [] := va_S.rf
  unfold fJ0_indexOf_0f7a4 at h
  refine lv_aload_n hx hb dJ0_indexOf_0f7a4_0 rfl (lv_at hl 0 rfl) ?_
  refine lv_iload_n hx hb dJ0_indexOf_0f7a4_1 rfl (lv_at hl 1 rfl) ?_
  refine lv_iconst (v := (0 : Int32)) hx hb dJ0_indexOf_0f7a4_2 (by decide) ?_
  replace h := bd_a h
  obtain ⟨b1, hcb1, h⟩ := h
  refine tb_cVI hZk hx hb hml hown hts hK hZ hW hS [.int x1, .int (0 : Int32)] (mJ0_indexOf_7cf53 (l := l) hZk th x1 (0 : Int32) M0 hth b1 hcb1) pmJ0_indexOf_7cf53 tw837 (tb_Trecv ((hZ.1 _ hth).1) hS) ⟨Nat.le_of_ble_eq_true rfl, Nat.le_of_ble_eq_true rfl⟩ rfl hl.1 (Nat.le_of_ble_eq_true rfl) ⟨Nat.le_refl _, Nat.le_refl _⟩ rfl dJ0_indexOf_0f7a4_3 (fun H locs hW hS => ?_)
  exact tb_iretO h hx hb hr hS hW hlk dJ0_indexOf_0f7a4_6
def fX0_bodyFrom_b4 (x0 : Int32) (k1 : Int32 → Int32 → Option Int32) (i2 : Int32) (i3 : Int32) : Option Int32 :=
  if (6 : Int32) < i3 then (ix (((4 : Int32) * i2) + x0) 28 <| some (tOw (((4 : Int32) * i2) + x0).toNatClampNeg)) else (if i2 ≤ 0 then (ix (((4 : Int32) * i2) + x0) 28 <| some (tOw (((4 : Int32) * i2) + x0).toNatClampNeg)) else (ix (((4 : Int32) * i2) + x0) 28 <| if (tOw (((4 : Int32) * i2) + x0).toNatClampNeg) = 0 then (ix i2 7 <| nm (tAb i2.toNatClampNeg) fun v7 => nm (i3 + (1 : Int32)) fun v8 => k1 v7 v8) else (ix (((4 : Int32) * i2) + x0) 28 <| some (tOw (((4 : Int32) * i2) + x0).toNatClampNeg))))
def fX0_bodyFrom_l4 (x0 : Int32) : Nat → Int32 → Int32 → Option Int32
  | 0, _, _ => none
  | n + 1, i2, i3 => fX0_bodyFrom_b4 x0 (fX0_bodyFrom_l4 x0 n) i2 i3
def fX0_bodyFrom (x0 : Int32) (x1 : Int32) (M0 : Mem) : Option Int32 :=
  fX0_bodyFrom_l4 x0 FU x1 (0 : Int32)
set_option maxHeartbeats 4000000 in
set_option maxRecDepth 100000 in
theorem mX0_bodyFrom {l : Launch} {D : va_G} {cy : Nat → ClassId} {A : Nat → Prop} {K : KC} {nS nL : Nat} {ad : Nat → Nat → Nat} (hZk : ZOK A (ZC A K)) (x0 : Int32) (x1 : Int32) (M0 : Mem) (r : Int32) (h : fX0_bodyFrom x0 x1 M0 = some r) : Met l yX0_bodyFrom (wt yX0_bodyFrom cX0_bodyFrom 4 (some .int)) (rm 0 0) (CPre D cy A (ZC A K) (cnC nS nL) ad M0 [.int x0, .int x1]) (QI D cy A (cnC nS nL) ad r M0) 0 0 A := by
  refine tb_start [.int x0, .int x1] [(0, .int x0), (1, .int x1)] RX0 rfl (by decide +kernel) (Nat.le_of_ble_eq_true rfl) rfl (fun p e s m args below meth c hx hb hr hml hown hts hlk hW hK hZ ls hl => ?_)
  have hS : va_S A s.heap s.heap [] := va_S.rf
  unfold fX0_bodyFrom at h
  refine lv_iload_n hx hb dX0_bodyFrom_0 rfl (lv_at hl 1 rfl) ?_
  refine lv_istore_n (lv' := [(2, .int x1), (0, .int x0), (1, .int x1)]) hx hb dX0_bodyFrom_1 rfl hl (by decide) rfl (fun ls hl => ?_)
  refine lv_iconst (v := (0 : Int32)) hx hb dX0_bodyFrom_2 (by decide) ?_
  refine lv_istore_n (lv' := [(3, .int (0 : Int32)), (2, .int x1), (0, .int x0), (1, .int x1)]) hx hb dX0_bodyFrom_3 rfl hl (by decide) rfl (fun ls hl => ?_)
  have L1 : ∀ (n1 : Nat) (i2 : Int32) (i3 : Int32) (H : Heap) (locs : List Loc) (ls : Array Slot), Wd D cy A (cnC nS nL) ad M0 H → va_S A s.heap H locs → lv_has ls 4 [(0, .int x0), (2, .int i2), (3, .int i3)] → fX0_bodyFrom_l4 x0 n1 i2 i3 = some r → W p l e (rm 0 0) s m args below meth c H locs 0 0 (MQ below (QI D cy A (cnC nS nL) ad r M0) args s 0 0 A) (F0 m 4 ls []) := by
    intro n1
    induction n1 with
    | zero => intro i2 i3 H locs ls hW hS hl h; cases h
    | succ n1 ih1 =>
      intro i2 i3 H locs ls hW hS hl h
      unfold fX0_bodyFrom_l4 fX0_bodyFrom_b4 at h
      refine lv_iload_n hx hb dX0_bodyFrom_4 rfl (lv_at hl 2 rfl) ?_
      refine lv_bipush (v := (6 : Int32)) hx hb dX0_bodyFrom_5 (by decide) ?_
      refine lv_icmp_gt (tgt := 38) hx hb dX0_bodyFrom_7 (by decide) (fun c4 => ?_) (fun c4 => ?_)
      · replace h := sh_t c4 h
        refine va_gets hx hb hZ.2.2.2.2.1.1 hS hown (hts _ tw1128) (fun _ h9 => h9) dX0_bodyFrom_38 ?_
        refine lv_iconst (v := (4 : Int32)) hx hb dX0_bodyFrom_41 (by decide) ?_
        refine lv_iload_n hx hb dX0_bodyFrom_42 rfl (lv_at hl 1 rfl) ?_
        refine lv_imul hx hb dX0_bodyFrom_43 ?_
        refine lv_iload_n hx hb dX0_bodyFrom_44 rfl (lv_at hl 0 rfl) ?_
        refine lv_iadd hx hb dX0_bodyFrom_45 ?_
        replace h := ix_a h
        obtain ⟨hj, h⟩ := h
        refine tb_Tiald hx hb hZ.2.2.2.2.1.2 hS hj dX0_bodyFrom_46 ?_
        exact tb_iretO h hx hb hr hS hW hlk dX0_bodyFrom_47
      · replace h := sh_f c4 h
        refine lv_iload_n hx hb dX0_bodyFrom_10 rfl (lv_at hl 1 rfl) ?_
        refine lv_if_le (tgt := 38) hx hb dX0_bodyFrom_11 (by decide) (fun c5 => ?_) (fun c5 => ?_)
        · replace h := sh_t c5 h
          refine va_gets hx hb hZ.2.2.2.2.1.1 hS hown (hts _ tw1128) (fun _ h9 => h9) dX0_bodyFrom_38 ?_
          refine lv_iconst (v := (4 : Int32)) hx hb dX0_bodyFrom_41 (by decide) ?_
          refine lv_iload_n hx hb dX0_bodyFrom_42 rfl (lv_at hl 1 rfl) ?_
          refine lv_imul hx hb dX0_bodyFrom_43 ?_
          refine lv_iload_n hx hb dX0_bodyFrom_44 rfl (lv_at hl 0 rfl) ?_
          refine lv_iadd hx hb dX0_bodyFrom_45 ?_
          replace h := ix_a h
          obtain ⟨hj, h⟩ := h
          refine tb_Tiald hx hb hZ.2.2.2.2.1.2 hS hj dX0_bodyFrom_46 ?_
          exact tb_iretO h hx hb hr hS hW hlk dX0_bodyFrom_47
        · replace h := sh_f c5 h
          refine va_gets hx hb hZ.2.2.2.2.1.1 hS hown (hts _ tw1128) (fun _ h9 => h9) dX0_bodyFrom_14 ?_
          refine lv_iconst (v := (4 : Int32)) hx hb dX0_bodyFrom_17 (by decide) ?_
          refine lv_iload_n hx hb dX0_bodyFrom_18 rfl (lv_at hl 1 rfl) ?_
          refine lv_imul hx hb dX0_bodyFrom_19 ?_
          refine lv_iload_n hx hb dX0_bodyFrom_20 rfl (lv_at hl 0 rfl) ?_
          refine lv_iadd hx hb dX0_bodyFrom_21 ?_
          replace h := ix_a h
          obtain ⟨hj, h⟩ := h
          refine tb_Tiald hx hb hZ.2.2.2.2.1.2 hS hj dX0_bodyFrom_22 ?_
          refine lv_if_ne (tgt := 38) hx hb dX0_bodyFrom_23 (by decide) (fun c6 => ?_) (fun c6 => ?_)
          · replace h := sh_f c6 h
            refine va_gets hx hb hZ.2.2.2.2.1.1 hS hown (hts _ tw1128) (fun _ h9 => h9) dX0_bodyFrom_38 ?_
            refine lv_iconst (v := (4 : Int32)) hx hb dX0_bodyFrom_41 (by decide) ?_
            refine lv_iload_n hx hb dX0_bodyFrom_42 rfl (lv_at hl 1 rfl) ?_
            refine lv_imul hx hb dX0_bodyFrom_43 ?_
            refine lv_iload_n hx hb dX0_bodyFrom_44 rfl (lv_at hl 0 rfl) ?_
            refine lv_iadd hx hb dX0_bodyFrom_45 ?_
            replace h := ix_a h
            obtain ⟨hj, h⟩ := h
            refine tb_Tiald hx hb hZ.2.2.2.2.1.2 hS hj dX0_bodyFrom_46 ?_
            exact tb_iretO h hx hb hr hS hW hlk dX0_bodyFrom_47
          · replace h := sh_t c6 h
            refine va_gets hx hb hZ.2.2.2.1.1 hS hown (hts _ tw1130) (fun _ h9 => h9) dX0_bodyFrom_26 ?_
            refine lv_iload_n hx hb dX0_bodyFrom_29 rfl (lv_at hl 1 rfl) ?_
            replace h := ix_a h
            obtain ⟨hj, h⟩ := h
            refine tb_Tiald hx hb hZ.2.2.2.1.2 hS hj dX0_bodyFrom_30 ?_
            refine lv_topi (fun v7 ev7 => ?_)
            replace h := nm_a ev7 h
            refine lv_istore_n (lv' := [(2, .int v7), (0, .int x0), (3, .int i3)]) hx hb dX0_bodyFrom_31 rfl hl (by decide) rfl (fun ls hl => ?_)
            obtain ⟨v8, ev8⟩ : ∃ y : Int32, y = i3 + (1 : Int32) := ⟨_, rfl⟩
            replace h := nm_a ev8 h
            refine lv_iinc (v := v8) (lv' := [(3, .int v8), (2, .int v7), (0, .int x0)]) hx hb dX0_bodyFrom_32 hl (k := 2) rfl (by rw [ev8]; rfl) (by decide) rfl (fun ls hl => ?_)
            refine lv_goto (tgt := 4) hx hb dX0_bodyFrom_35 (by decide) ?_
            exact ih1 v7 v8 _ _ _ hW hS (lv_sub hl [2, 1, 0] rfl) h
  exact L1 FU x1 (0 : Int32) _ _ _ hW hS (lv_sub hl [2, 1, 0] rfl) h
def fX0_begin (x1 : Int32) (M0 : Mem) : Option (Unit × Mem) :=
  if (24 : Int32) ≤ (mgI M0 1 0 0) then (nm ((mgI M0 1 0 0) + (1 : Int32)) fun v2 => nm (msI M0 1 0 0 v2) fun M3 => some ((), M3)) else (ix (mgI M0 1 0 0) 24 <| nm (msI M0 2000 0 ((mgI M0 1 0 0).toNatClampNeg) x1) fun M4 => nm ((mgI M4 1 0 0) + (1 : Int32)) fun v5 => nm (msI M4 1 0 0 v5) fun M6 => some ((), M6))
set_option maxHeartbeats 4000000 in
set_option maxRecDepth 100000 in
theorem mX0_begin {l : Launch} {D : va_G} {cy : Nat → ClassId} {A : Nat → Prop} {K : KC} {nS nL : Nat} {ad : Nat → Nat → Nat} (hZk : ZOK A (ZC A K)) (x1 : Int32) (M0 : Mem) (r : Unit) (M' : Mem) (h : fX0_begin x1 M0 = some (r, M')) : Met l yX0_begin (wt yX0_begin cX0_begin 2 none) (rm 0 0) (CPre D cy A (ZC A K) (cnC nS nL) ad M0 [.ref (ad 0 0), .int x1]) (QV D cy A (cnC nS nL) ad r M') 0 0 A := by
  refine tb_start [.ref (ad 0 0), .int x1] [(0, .ref (ad 0 0)), (1, .int x1)] RX0 rfl (by decide +kernel) (Nat.le_of_ble_eq_true rfl) rfl (fun p e s m args below meth c hx hb hr hml hown hts hlk hW hK hZ ls hl => ?_)
  have hS : va_S A s.heap s.heap [] := va_S.rf
  unfold fX0_begin at h
  refine lv_aload_n hx hb dX0_begin_0 rfl (lv_at hl 0 rfl) ?_
  refine gtX0_61 hx hb hts hown hK hW cz0 dX0_begin_1 ?_
  refine lv_aload_n hx hb dX0_begin_4 rfl (lv_at hl 0 rfl) ?_
  refine gtX0_9 hx hb hts hown hK hW cz0 dX0_begin_5 ?_
  refine tb_alen (v := (24 : Int32)) hx hb hK hW 20 (by decide) (by decide) rfl cz20 (by decide) dX0_begin_8 ?_
  refine lv_icmp_ge (tgt := 22) hx hb dX0_begin_9 (by decide) (fun c1 => ?_) (fun c1 => ?_)
  · replace h := sh_t c1 h
    refine lv_aload_n hx hb dX0_begin_22 rfl (lv_at hl 0 rfl) ?_
    refine lv_dup hx hb dX0_begin_23 rfl ?_
    refine gtX0_61 hx hb hts hown hK hW cz0 dX0_begin_24 ?_
    refine lv_iconst (v := (1 : Int32)) hx hb dX0_begin_27 (by decide) ?_
    refine lv_iadd hx hb dX0_begin_28 ?_
    refine lv_topi (fun v2 ev2 => ?_)
    replace h := nm_a ev2 h
    refine ptX0_61 hx hb hts hown hK hW hS cz0 dX0_begin_29 (fun H locs hW hS => ?_)
    obtain ⟨M3, eM3⟩ : ∃ y, y = msI M0 1 0 0 v2 := ⟨_, rfl⟩
    replace h := nm_a eM3 h
    rw [← eM3] at hW
    exact tb_vretE h hx hb hr hS hW hlk dX0_begin_32
  · replace h := sh_f c1 h
    refine lv_aload_n hx hb dX0_begin_12 rfl (lv_at hl 0 rfl) ?_
    refine gtX0_9 hx hb hts hown hK hW cz0 dX0_begin_13 ?_
    refine lv_aload_n hx hb dX0_begin_16 rfl (lv_at hl 0 rfl) ?_
    refine gtX0_61 hx hb hts hown hK hW cz0 dX0_begin_17 ?_
    refine lv_iload_n hx hb dX0_begin_20 rfl (lv_at hl 1 rfl) ?_
    replace h := ix_a h
    obtain ⟨hj, h⟩ := h
    refine as20 hx hb hK hW hS cz20 hj dX0_begin_21 (fun H locs hW hS => ?_)
    obtain ⟨M4, eM4⟩ : ∃ y, y = msI M0 2000 0 ((mgI M0 1 0 0).toNatClampNeg) x1 := ⟨_, rfl⟩
    replace h := nm_a eM4 h
    rw [← eM4] at hW
    refine lv_aload_n hx hb dX0_begin_22 rfl (lv_at hl 0 rfl) ?_
    refine lv_dup hx hb dX0_begin_23 rfl ?_
    refine gtX0_61 hx hb hts hown hK hW cz0 dX0_begin_24 ?_
    refine lv_iconst (v := (1 : Int32)) hx hb dX0_begin_27 (by decide) ?_
    refine lv_iadd hx hb dX0_begin_28 ?_
    refine lv_topi (fun v5 ev5 => ?_)
    replace h := nm_a ev5 h
    refine ptX0_61 hx hb hts hown hK hW hS cz0 dX0_begin_29 (fun H locs hW hS => ?_)
    obtain ⟨M6, eM6⟩ : ∃ y, y = msI M4 1 0 0 v5 := ⟨_, rfl⟩
    replace h := nm_a eM6 h
    rw [← eM6] at hW
    exact tb_vretE h hx hb hr hS hW hlk dX0_begin_32
def fX1_forgetOldest_b2 (k1 : Int32 → Mem → Option (Unit × Mem)) (i2 : Int32) (M3 : Mem) : Option (Unit × Mem) :=
  if (40 : Int32) ≤ i2 then (nm (msI M3 100 0 0 (39 : Int32)) fun M5 => some ((), M5)) else (ix i2 40 <| nm (mgI M3 2100 0 i2.toNatClampNeg) fun v6 => ix (i2 - (1 : Int32)) 40 <| nm (msI M3 2100 0 ((i2 - (1 : Int32)).toNatClampNeg) v6) fun M7 => ix i2 40 <| nm (mgI M7 2200 0 i2.toNatClampNeg) fun v8 => ix (i2 - (1 : Int32)) 40 <| nm (msI M7 2200 0 ((i2 - (1 : Int32)).toNatClampNeg) v8) fun M9 => ix i2 40 <| nm (mgI M9 2300 0 i2.toNatClampNeg) fun v10 => ix (i2 - (1 : Int32)) 40 <| nm (msI M9 2300 0 ((i2 - (1 : Int32)).toNatClampNeg) v10) fun M11 => ix i2 40 <| nm (mgI M11 2400 0 i2.toNatClampNeg) fun v12 => ix (i2 - (1 : Int32)) 40 <| nm (msI M11 2400 0 ((i2 - (1 : Int32)).toNatClampNeg) v12) fun M13 => nm (i2 + (1 : Int32)) fun v14 => k1 v14 M13)
def fX1_forgetOldest_l2 : Nat → Int32 → Mem → Option (Unit × Mem)
  | 0, _, _ => none
  | n + 1, i2, M3 => fX1_forgetOldest_b2 (fX1_forgetOldest_l2 n) i2 M3
def fX1_forgetOldest (M0 : Mem) : Option (Unit × Mem) :=
  fX1_forgetOldest_l2 FU (1 : Int32) M0
set_option maxHeartbeats 4000000 in
set_option maxRecDepth 100000 in
theorem mX1_forgetOldest {l : Launch} {D : va_G} {cy : Nat → ClassId} {A : Nat → Prop} {K : KC} {nS nL : Nat} {ad : Nat → Nat → Nat} (hZk : ZOK A (ZC A K)) (M0 : Mem) (r : Unit) (M' : Mem) (h : fX1_forgetOldest M0 = some (r, M')) : Met l yX1_forgetOldest (wt yX1_forgetOldest cX1_forgetOldest 2 none) (rm 0 0) (CPre D cy A (ZC A K) (cnC nS nL) ad M0 [.ref (ad 1 0)]) (QV D cy A (cnC nS nL) ad r M') 0 0 A := by
  refine tb_start [.ref (ad 1 0)] [(0, .ref (ad 1 0))] RX1 rfl (by decide +kernel) (Nat.le_of_ble_eq_true rfl) rfl (fun p e s m args below meth c hx hb hr hml hown hts hlk hW hK hZ ls hl => ?_)
  have hS : va_S A s.heap s.heap [] := va_S.rf
  unfold fX1_forgetOldest at h
  refine lv_iconst (v := (1 : Int32)) hx hb dX1_forgetOldest_0 (by decide) ?_
  refine lv_istore_n (lv' := [(1, .int (1 : Int32)), (0, .ref (ad 1 0))]) hx hb dX1_forgetOldest_1 rfl hl (by decide) rfl (fun ls hl => ?_)
  have L1 : ∀ (n1 : Nat) (i2 : Int32) (M3 : Mem) (H : Heap) (locs : List Loc) (ls : Array Slot), Wd D cy A (cnC nS nL) ad M3 H → va_S A s.heap H locs → lv_has ls 2 [(0, .ref (ad 1 0)), (1, .int i2)] → fX1_forgetOldest_l2 n1 i2 M3 = some (r, M') → W p l e (rm 0 0) s m args below meth c H locs 0 0 (MQ below (QV D cy A (cnC nS nL) ad r M') args s 0 0 A) (F0 m 2 ls []) := by
    intro n1
    induction n1 with
    | zero => intro i2 M3 H locs ls hW hS hl h; cases h
    | succ n1 ih1 =>
      intro i2 M3 H locs ls hW hS hl h
      unfold fX1_forgetOldest_l2 fX1_forgetOldest_b2 at h
      refine lv_iload_n hx hb dX1_forgetOldest_2 rfl (lv_at hl 1 rfl) ?_
      refine lv_bipush (v := (40 : Int32)) hx hb dX1_forgetOldest_3 (by decide) ?_
      refine lv_icmp_ge (tgt := 70) hx hb dX1_forgetOldest_5 (by decide) (fun c4 => ?_) (fun c4 => ?_)
      · replace h := sh_t c4 h
        refine lv_aload_n hx hb dX1_forgetOldest_70 rfl (lv_at hl 0 rfl) ?_
        refine lv_bipush (v := (39 : Int32)) hx hb dX1_forgetOldest_71 (by decide) ?_
        refine ptX1_32 hx hb hts hown hK hW hS cz1 dX1_forgetOldest_73 (fun H locs hW hS => ?_)
        obtain ⟨M5, eM5⟩ : ∃ y, y = msI M3 100 0 0 (39 : Int32) := ⟨_, rfl⟩
        replace h := nm_a eM5 h
        rw [← eM5] at hW
        exact tb_vretE h hx hb hr hS hW hlk dX1_forgetOldest_76
      · replace h := sh_f c4 h
        refine lv_aload_n hx hb dX1_forgetOldest_8 rfl (lv_at hl 0 rfl) ?_
        refine gtX1_11 hx hb hts hown hK hW cz1 dX1_forgetOldest_9 ?_
        refine lv_iload_n hx hb dX1_forgetOldest_12 rfl (lv_at hl 1 rfl) ?_
        refine lv_iconst (v := (1 : Int32)) hx hb dX1_forgetOldest_13 (by decide) ?_
        refine lv_isub hx hb dX1_forgetOldest_14 ?_
        refine lv_aload_n hx hb dX1_forgetOldest_15 rfl (lv_at hl 0 rfl) ?_
        refine gtX1_11 hx hb hts hown hK hW cz1 dX1_forgetOldest_16 ?_
        refine lv_iload_n hx hb dX1_forgetOldest_19 rfl (lv_at hl 1 rfl) ?_
        replace h := ix_a h
        obtain ⟨hj, h⟩ := h
        refine al21 hx hb hK hW cz21 hj dX1_forgetOldest_20 ?_
        refine lv_topi (fun v6 ev6 => ?_)
        replace h := nm_a ev6 h
        replace h := ix_a h
        obtain ⟨hj, h⟩ := h
        refine as21 hx hb hK hW hS cz21 hj dX1_forgetOldest_21 (fun H locs hW hS => ?_)
        obtain ⟨M7, eM7⟩ : ∃ y, y = msI M3 2100 0 ((i2 - (1 : Int32)).toNatClampNeg) v6 := ⟨_, rfl⟩
        replace h := nm_a eM7 h
        rw [← eM7] at hW
        refine lv_aload_n hx hb dX1_forgetOldest_22 rfl (lv_at hl 0 rfl) ?_
        refine gtX1_15 hx hb hts hown hK hW cz1 dX1_forgetOldest_23 ?_
        refine lv_iload_n hx hb dX1_forgetOldest_26 rfl (lv_at hl 1 rfl) ?_
        refine lv_iconst (v := (1 : Int32)) hx hb dX1_forgetOldest_27 (by decide) ?_
        refine lv_isub hx hb dX1_forgetOldest_28 ?_
        refine lv_aload_n hx hb dX1_forgetOldest_29 rfl (lv_at hl 0 rfl) ?_
        refine gtX1_15 hx hb hts hown hK hW cz1 dX1_forgetOldest_30 ?_
        refine lv_iload_n hx hb dX1_forgetOldest_33 rfl (lv_at hl 1 rfl) ?_
        replace h := ix_a h
        obtain ⟨hj, h⟩ := h
        refine al22 hx hb hK hW cz22 hj dX1_forgetOldest_34 ?_
        refine lv_topi (fun v8 ev8 => ?_)
        replace h := nm_a ev8 h
        replace h := ix_a h
        obtain ⟨hj, h⟩ := h
        refine as22 hx hb hK hW hS cz22 hj dX1_forgetOldest_35 (fun H locs hW hS => ?_)
        obtain ⟨M9, eM9⟩ : ∃ y, y = msI M7 2200 0 ((i2 - (1 : Int32)).toNatClampNeg) v8 := ⟨_, rfl⟩
        replace h := nm_a eM9 h
        rw [← eM9] at hW
        refine lv_aload_n hx hb dX1_forgetOldest_36 rfl (lv_at hl 0 rfl) ?_
        refine gtX1_18 hx hb hts hown hK hW cz1 dX1_forgetOldest_37 ?_
        refine lv_iload_n hx hb dX1_forgetOldest_40 rfl (lv_at hl 1 rfl) ?_
        refine lv_iconst (v := (1 : Int32)) hx hb dX1_forgetOldest_41 (by decide) ?_
        refine lv_isub hx hb dX1_forgetOldest_42 ?_
        refine lv_aload_n hx hb dX1_forgetOldest_43 rfl (lv_at hl 0 rfl) ?_
        refine gtX1_18 hx hb hts hown hK hW cz1 dX1_forgetOldest_44 ?_
        refine lv_iload_n hx hb dX1_forgetOldest_47 rfl (lv_at hl 1 rfl) ?_
        replace h := ix_a h
        obtain ⟨hj, h⟩ := h
        refine al23 hx hb hK hW cz23 hj dX1_forgetOldest_48 ?_
        refine lv_topi (fun v10 ev10 => ?_)
        replace h := nm_a ev10 h
        replace h := ix_a h
        obtain ⟨hj, h⟩ := h
        refine as23 hx hb hK hW hS cz23 hj dX1_forgetOldest_49 (fun H locs hW hS => ?_)
        obtain ⟨M11, eM11⟩ : ∃ y, y = msI M9 2300 0 ((i2 - (1 : Int32)).toNatClampNeg) v10 := ⟨_, rfl⟩
        replace h := nm_a eM11 h
        rw [← eM11] at hW
        refine lv_aload_n hx hb dX1_forgetOldest_50 rfl (lv_at hl 0 rfl) ?_
        refine gtX1_21 hx hb hts hown hK hW cz1 dX1_forgetOldest_51 ?_
        refine lv_iload_n hx hb dX1_forgetOldest_54 rfl (lv_at hl 1 rfl) ?_
        refine lv_iconst (v := (1 : Int32)) hx hb dX1_forgetOldest_55 (by decide) ?_
        refine lv_isub hx hb dX1_forgetOldest_56 ?_
        refine lv_aload_n hx hb dX1_forgetOldest_57 rfl (lv_at hl 0 rfl) ?_
        refine gtX1_21 hx hb hts hown hK hW cz1 dX1_forgetOldest_58 ?_
        refine lv_iload_n hx hb dX1_forgetOldest_61 rfl (lv_at hl 1 rfl) ?_
        replace h := ix_a h
        obtain ⟨hj, h⟩ := h
        refine al24 hx hb hK hW cz24 hj dX1_forgetOldest_62 ?_
        refine lv_topi (fun v12 ev12 => ?_)
        replace h := nm_a ev12 h
        replace h := ix_a h
        obtain ⟨hj, h⟩ := h
        refine as24 hx hb hK hW hS cz24 hj dX1_forgetOldest_63 (fun H locs hW hS => ?_)
        obtain ⟨M13, eM13⟩ : ∃ y, y = msI M11 2400 0 ((i2 - (1 : Int32)).toNatClampNeg) v12 := ⟨_, rfl⟩
        replace h := nm_a eM13 h
        rw [← eM13] at hW
        obtain ⟨v14, ev14⟩ : ∃ y : Int32, y = i2 + (1 : Int32) := ⟨_, rfl⟩
        replace h := nm_a ev14 h
        refine lv_iinc (v := v14) (lv' := [(1, .int v14), (0, .ref (ad 1 0))]) hx hb dX1_forgetOldest_64 hl (k := 1) rfl (by rw [ev14]; rfl) (by decide) rfl (fun ls hl => ?_)
        refine lv_goto (tgt := 2) hx hb dX1_forgetOldest_67 (by decide) ?_
        exact ih1 v14 M13 _ _ _ hW hS (lv_sub hl [1, 0] rfl) h
  exact L1 FU (1 : Int32) M0 _ _ _ hW hS (lv_sub hl [1, 0] rfl) h
def fX5_lineAt (x1 : Int32) (M0 : Mem) : Option (Option Nat) :=
  if x1 < 0 then (some none) else (if (mgI M0 503 0 0) ≤ x1 then (some none) else (ix x1 200 <| nm (mgR M0 3300 0 x1.toNatClampNeg) fun o3 => some o3))
set_option maxHeartbeats 4000000 in
set_option maxRecDepth 100000 in
theorem mX5_lineAt {l : Launch} {D : va_G} {cy : Nat → ClassId} {A : Nat → Prop} {K : KC} {nS nL : Nat} {ad : Nat → Nat → Nat} (hZk : ZOK A (ZC A K)) (x1 : Int32) (M0 : Mem) (r : Option Nat) (h : fX5_lineAt x1 M0 = some r) : Met l yX5_lineAt (wt yX5_lineAt cX5_lineAt 2 (some (.object "TakenBack$Line"))) (rm 0 0) (CPre D cy A (ZC A K) (cnC nS nL) ad M0 [.ref (ad 5 0), .int x1]) (QR 4 D cy A (cnC nS nL) ad r M0) 0 0 A := by
  refine tb_start [.ref (ad 5 0), .int x1] [(0, .ref (ad 5 0)), (1, .int x1)] RX5 rfl (by decide +kernel) (Nat.le_of_ble_eq_true rfl) rfl (fun p e s m args below meth c hx hb hr hml hown hts hlk hW hK hZ ls hl => ?_)
  have hS : va_S A s.heap s.heap [] := va_S.rf
  unfold fX5_lineAt at h
  refine lv_iload_n hx hb dX5_lineAt_0 rfl (lv_at hl 1 rfl) ?_
  refine lv_if_lt (tgt := 21) hx hb dX5_lineAt_1 (by decide) (fun c1 => ?_) (fun c1 => ?_)
  · replace h := sh_t c1 h
    refine lv_null hx hb dX5_lineAt_21 ?_
    exact tb_rretO (v := none) h (fun z hz => by cases hz) hx hb hr (by first | exact Or.inl ⟨_, rfl⟩ | exact Or.inr ⟨_, rfl⟩) hS hW hlk dX5_lineAt_22
  · replace h := sh_f c1 h
    refine lv_iload_n hx hb dX5_lineAt_4 rfl (lv_at hl 1 rfl) ?_
    refine lv_aload_n hx hb dX5_lineAt_5 rfl (lv_at hl 0 rfl) ?_
    refine gtX5_31 hx hb hts hown hK hW cz5 dX5_lineAt_6 ?_
    refine lv_icmp_ge (tgt := 21) hx hb dX5_lineAt_9 (by decide) (fun c2 => ?_) (fun c2 => ?_)
    · replace h := sh_t c2 h
      refine lv_null hx hb dX5_lineAt_21 ?_
      exact tb_rretO (v := none) h (fun z hz => by cases hz) hx hb hr (by first | exact Or.inl ⟨_, rfl⟩ | exact Or.inr ⟨_, rfl⟩) hS hW hlk dX5_lineAt_22
    · replace h := sh_f c2 h
      refine lv_aload_n hx hb dX5_lineAt_12 rfl (lv_at hl 0 rfl) ?_
      refine gtX5_19 hx hb hts hown hK hW cz5 dX5_lineAt_13 ?_
      refine lv_iload_n hx hb dX5_lineAt_16 rfl (lv_at hl 1 rfl) ?_
      replace h := ix_a h
      obtain ⟨hj, h⟩ := h
      refine al33 hx hb hK hW cz33 hj dX5_lineAt_17 (fun o3 eo3 ho3 => ?_)
      replace h := nm_a eo3 h
      refine lv_goto (tgt := 22) hx hb dX5_lineAt_18 (by decide) ?_
      exact tb_rretO (v := o3) h ho3 hx hb hr (by first | exact Or.inl ⟨_, rfl⟩ | exact Or.inr ⟨_, rfl⟩) hS hW hlk dX5_lineAt_22
def fX2_isCopy (x1 : Int32) (M0 : Mem) : Int32 :=
  if x1 < 0 then ((0 : Int32)) else (if (mgI M0 201 0 0) ≤ x1 then ((0 : Int32)) else ((1 : Int32)))
set_option maxHeartbeats 4000000 in
set_option maxRecDepth 100000 in
theorem mX2_isCopy {l : Launch} {D : va_G} {cy : Nat → ClassId} {A : Nat → Prop} {K : KC} {nS nL : Nat} {ad : Nat → Nat → Nat} (hZk : ZOK A (ZC A K)) (x1 : Int32) (M0 : Mem) (r : Int32) (h : fX2_isCopy x1 M0 = r) : Met l yX2_isCopy (wt yX2_isCopy cX2_isCopy 2 (some .boolean)) (rm 0 0) (CPre D cy A (ZC A K) (cnC nS nL) ad M0 [.ref (ad 2 0), .int x1]) (QZ D cy A (cnC nS nL) ad r M0) 0 0 A := by
  refine tb_start [.ref (ad 2 0), .int x1] [(0, .ref (ad 2 0)), (1, .int x1)] RX2 rfl (by decide +kernel) (Nat.le_of_ble_eq_true rfl) rfl (fun p e s m args below meth c hx hb hr hml hown hts hlk hW hK hZ ls hl => ?_)
  have hS : va_S A s.heap s.heap [] := va_S.rf
  unfold fX2_isCopy at h
  refine lv_iload_n hx hb dX2_isCopy_0 rfl (lv_at hl 1 rfl) ?_
  refine lv_if_lt (tgt := 16) hx hb dX2_isCopy_1 (by decide) (fun c1 => ?_) (fun c1 => ?_)
  · replace h := sh_t c1 h
    refine lv_iconst (v := (0 : Int32)) hx hb dX2_isCopy_16 (by decide) ?_
    exact tb_zretP h hx hb hr hS hW hlk (by decide) dX2_isCopy_17
  · replace h := sh_f c1 h
    refine lv_iload_n hx hb dX2_isCopy_4 rfl (lv_at hl 1 rfl) ?_
    refine lv_aload_n hx hb dX2_isCopy_5 rfl (lv_at hl 0 rfl) ?_
    refine gtX2_25 hx hb hts hown hK hW cz2 dX2_isCopy_6 ?_
    refine lv_icmp_ge (tgt := 16) hx hb dX2_isCopy_9 (by decide) (fun c2 => ?_) (fun c2 => ?_)
    · replace h := sh_t c2 h
      refine lv_iconst (v := (0 : Int32)) hx hb dX2_isCopy_16 (by decide) ?_
      exact tb_zretP h hx hb hr hS hW hlk (by decide) dX2_isCopy_17
    · replace h := sh_f c2 h
      refine lv_iconst (v := (1 : Int32)) hx hb dX2_isCopy_12 (by decide) ?_
      refine lv_goto (tgt := 17) hx hb dX2_isCopy_13 (by decide) ?_
      exact tb_zretP h hx hb hr hS hW hlk (by decide) dX2_isCopy_17
def fX1_set (x1 : Int32) (x2 : Int32) (x3 : Int32) (M0 : Mem) : Option (Unit × Mem) :=
  bd (fX5_lineAt x2 M0) fun o1 => if x1 = 0 then (oc o1 (if x1 = (1 : Int32) then (if x1 = (2 : Int32) then (nm (fX2_isCopy x2 M0) fun b21 => if b21 = 0 then (some ((), M0)) else (ix x2 60 <| nm (msI M0 2500 0 x2.toNatClampNeg x3) fun M23 => some ((), M23))) else (some ((), M0))) else (if x1 = (2 : Int32) then (nm (fX2_isCopy x2 M0) fun b17 => if b17 = 0 then (some ((), M0)) else (ix x2 60 <| nm (msI M0 2500 0 x2.toNatClampNeg x3) fun M19 => some ((), M19))) else (some ((), M0)))) fun a14 => nm (msI M0 403 a14 0 x3) fun M24 => some ((), M24)) else (if x1 = (1 : Int32) then (oc o1 (if x1 = (2 : Int32) then (nm (fX2_isCopy x2 M0) fun b10 => if b10 = 0 then (some ((), M0)) else (ix x2 60 <| nm (msI M0 2500 0 x2.toNatClampNeg x3) fun M12 => some ((), M12))) else (some ((), M0))) fun a8 => nm (msI M0 404 a8 0 x3) fun M13 => some ((), M13)) else (if x1 = (2 : Int32) then (nm (fX2_isCopy x2 M0) fun b5 => if b5 = 0 then (some ((), M0)) else (ix x2 60 <| nm (msI M0 2500 0 x2.toNatClampNeg x3) fun M7 => some ((), M7))) else (some ((), M0))))
set_option maxHeartbeats 4000000 in
set_option maxRecDepth 100000 in
theorem mX1_set {l : Launch} {D : va_G} {cy : Nat → ClassId} {A : Nat → Prop} {K : KC} {nS nL : Nat} {ad : Nat → Nat → Nat} (hZk : ZOK A (ZC A K)) (x1 : Int32) (x2 : Int32) (x3 : Int32) (M0 : Mem) (r : Unit) (M' : Mem) (h : fX1_set x1 x2 x3 M0 = some (r, M')) : Met l yX1_set (wt yX1_set cX1_set 5 none) (rm 1 21) (CPre D cy A (ZC A K) (cnC nS nL) ad M0 [.ref (ad 1 0), .int x1, .int x2, .int x3]) (QV D cy A (cnC nS nL) ad r M') 0 0 A := by
  refine tb_start [.ref (ad 1 0), .int x1, .int x2, .int x3] [(0, .ref (ad 1 0)), (1, .int x1), (2, .int x2), (3, .int x3)] RX1 rfl (by decide +kernel) (Nat.le_of_ble_eq_true rfl) rfl (fun p e s m args below meth c hx hb hr hml hown hts hlk hW hK hZ ls hl => ?_)
  have hS : va_S A s.heap s.heap [] := va_S.rf
  unfold fX1_set at h
  refine lv_aload_n hx hb dX1_set_0 rfl (lv_at hl 0 rfl) ?_
  refine gtX1_24 hx hb hts hown hK hW cz1 dX1_set_1 ?_
  refine lv_iload_n hx hb dX1_set_4 rfl (lv_at hl 2 rfl) ?_
  replace h := bd_a h
  obtain ⟨o1, hco1, h⟩ := h
  refine tb_cVR hZk hx hb hml hown hts hK hZ hW hS [.int x2] (mX5_lineAt (l := l) hZk x2 M0 o1 hco1) pmX5_lineAt tw711 (Wd.recv hK hW (t := 5) (by decide) cz5 (C := RX5) (T := TX5) (N := 7) rfl) ⟨Nat.le_of_ble_eq_true rfl, Nat.le_of_ble_eq_true rfl⟩ rfl hl.1 (Nat.le_of_ble_eq_true rfl) ⟨Nat.le_refl _, Nat.le_refl _⟩ rfl dX1_set_5 (fun H locs hW hS hrr => ?_)
  have ho1 := hrr
  refine tb_astore (lv' := [(4, rv (ad 4) o1), (0, .ref (ad 1 0)), (1, .int x1), (2, .int x2), (3, .int x3)]) hx hb dX1_set_8 hl (by decide) rfl (fun ls hl => ?_)
  refine lv_iload_n hx hb dX1_set_10 rfl (lv_at hl 2 rfl) ?_
  refine lv_if_ne (tgt := 28) hx hb dX1_set_11 (by decide) (fun c2 => ?_) (fun c2 => ?_)
  · replace h := sh_f c2 h
    refine lv_iload_n hx hb dX1_set_28 rfl (lv_at hl 2 rfl) ?_
    refine lv_iconst (v := (1 : Int32)) hx hb dX1_set_29 (by decide) ?_
    refine lv_icmp_ne (tgt := 47) hx hb dX1_set_30 (by decide) (fun c3 => ?_) (fun c3 => ?_)
    · replace h := sh_f c3 h
      refine lv_iload_n hx hb dX1_set_47 rfl (lv_at hl 2 rfl) ?_
      refine lv_iconst (v := (2 : Int32)) hx hb dX1_set_48 (by decide) ?_
      refine lv_icmp_ne (tgt := 73) hx hb dX1_set_49 (by decide) (fun c4 => ?_) (fun c4 => ?_)
      · replace h := sh_f c4 h
        exact tb_vretE h hx hb hr hS hW hlk dX1_set_73
      · replace h := sh_t c4 h
        refine lv_aload_n hx hb dX1_set_52 rfl (lv_at hl 1 rfl) ?_
        refine gtX1_28 hx hb hts hown hK hW cz1 dX1_set_53 ?_
        refine lv_iload_n hx hb dX1_set_56 rfl (lv_at hl 3 rfl) ?_
        refine tb_cVZ hZk hx hb hml hown hts hK hZ hW hS [.int x2] (mX2_isCopy (l := l) hZk x2 M0 (fX2_isCopy x2 M0) rfl) pmX2_isCopy tw712 (Wd.recv hK hW (t := 2) (by decide) cz2 (C := RX2) (T := TX2) (N := 5) rfl) ⟨Nat.le_of_ble_eq_true rfl, Nat.le_of_ble_eq_true rfl⟩ rfl hl.1 (Nat.le_of_ble_eq_true rfl) ⟨Nat.le_refl _, Nat.le_refl _⟩ rfl dX1_set_57 (fun H locs hW hS hzz => ?_)
        refine lv_topi (fun b5 eb5 => ?_)
        replace h := nm_a eb5 h
        have hzb5 : b5 = 0 ∨ b5 = 1 := by rw [eb5]; exact hzz
        refine lv_if_eq (tgt := 73) hx hb dX1_set_60 (by decide) (fun c6 => ?_) (fun c6 => ?_)
        · replace h := sh_t c6 h
          exact tb_vretE h hx hb hr hS hW hlk dX1_set_73
        · replace h := sh_f c6 h
          refine lv_aload_n hx hb dX1_set_63 rfl (lv_at hl 1 rfl) ?_
          refine gtX1_28 hx hb hts hown hK hW cz1 dX1_set_64 ?_
          refine gtX1_66 hx hb hts hown hK hW cz2 dX1_set_67 ?_
          refine lv_iload_n hx hb dX1_set_70 rfl (lv_at hl 3 rfl) ?_
          refine lv_iload_n hx hb dX1_set_71 rfl (lv_at hl 4 rfl) ?_
          replace h := ix_a h
          obtain ⟨hj, h⟩ := h
          refine as25 hx hb hK hW hS cz25 hj dX1_set_72 (fun H locs hW hS => ?_)
          obtain ⟨M7, eM7⟩ : ∃ y, y = msI M0 2500 0 x2.toNatClampNeg x3 := ⟨_, rfl⟩
          replace h := nm_a eM7 h
          rw [← eM7] at hW
          exact tb_vretE h hx hb hr hS hW hlk dX1_set_73
    · replace h := sh_t c3 h
      refine tb_aload hx hb dX1_set_33 (lv_at hl 0 rfl) ?_
      refine tb_ifnull (tgt := 47) hx hb dX1_set_35 (by decide) (fun e0 => ?_) (fun a8 ea8 => ?_)
      · replace h := oc_n e0 h
        subst e0
        refine lv_iload_n hx hb dX1_set_47 rfl (lv_at hl 2 rfl) ?_
        refine lv_iconst (v := (2 : Int32)) hx hb dX1_set_48 (by decide) ?_
        refine lv_icmp_ne (tgt := 73) hx hb dX1_set_49 (by decide) (fun c9 => ?_) (fun c9 => ?_)
        · replace h := sh_f c9 h
          exact tb_vretE h hx hb hr hS hW hlk dX1_set_73
        · replace h := sh_t c9 h
          refine lv_aload_n hx hb dX1_set_52 rfl (lv_at hl 1 rfl) ?_
          refine gtX1_28 hx hb hts hown hK hW cz1 dX1_set_53 ?_
          refine lv_iload_n hx hb dX1_set_56 rfl (lv_at hl 3 rfl) ?_
          refine tb_cVZ hZk hx hb hml hown hts hK hZ hW hS [.int x2] (mX2_isCopy (l := l) hZk x2 M0 (fX2_isCopy x2 M0) rfl) pmX2_isCopy tw712 (Wd.recv hK hW (t := 2) (by decide) cz2 (C := RX2) (T := TX2) (N := 5) rfl) ⟨Nat.le_of_ble_eq_true rfl, Nat.le_of_ble_eq_true rfl⟩ rfl hl.1 (Nat.le_of_ble_eq_true rfl) ⟨Nat.le_refl _, Nat.le_refl _⟩ rfl dX1_set_57 (fun H locs hW hS hzz => ?_)
          refine lv_topi (fun b10 eb10 => ?_)
          replace h := nm_a eb10 h
          have hzb10 : b10 = 0 ∨ b10 = 1 := by rw [eb10]; exact hzz
          refine lv_if_eq (tgt := 73) hx hb dX1_set_60 (by decide) (fun c11 => ?_) (fun c11 => ?_)
          · replace h := sh_t c11 h
            exact tb_vretE h hx hb hr hS hW hlk dX1_set_73
          · replace h := sh_f c11 h
            refine lv_aload_n hx hb dX1_set_63 rfl (lv_at hl 1 rfl) ?_
            refine gtX1_28 hx hb hts hown hK hW cz1 dX1_set_64 ?_
            refine gtX1_66 hx hb hts hown hK hW cz2 dX1_set_67 ?_
            refine lv_iload_n hx hb dX1_set_70 rfl (lv_at hl 3 rfl) ?_
            refine lv_iload_n hx hb dX1_set_71 rfl (lv_at hl 4 rfl) ?_
            replace h := ix_a h
            obtain ⟨hj, h⟩ := h
            refine as25 hx hb hK hW hS cz25 hj dX1_set_72 (fun H locs hW hS => ?_)
            obtain ⟨M12, eM12⟩ : ∃ y, y = msI M0 2500 0 x2.toNatClampNeg x3 := ⟨_, rfl⟩
            replace h := nm_a eM12 h
            rw [← eM12] at hW
            exact tb_vretE h hx hb hr hS hW hlk dX1_set_73
      · replace h := oc_s ea8 h
        subst ea8
        have la8 := ho1 _ rfl
        refine lv_aload hx hb dX1_set_38 (lv_at hl 0 rfl) ?_
        refine lv_iload_n hx hb dX1_set_40 rfl (lv_at hl 4 rfl) ?_
        refine ptX1_57 hx hb hts hown hK hW hS la8 dX1_set_41 (fun H locs hW hS => ?_)
        obtain ⟨M13, eM13⟩ : ∃ y, y = msI M0 404 a8 0 x3 := ⟨_, rfl⟩
        replace h := nm_a eM13 h
        rw [← eM13] at hW
        refine lv_goto (tgt := 73) hx hb dX1_set_44 (by decide) ?_
        exact tb_vretE h hx hb hr hS hW hlk dX1_set_73
  · replace h := sh_t c2 h
    refine tb_aload hx hb dX1_set_14 (lv_at hl 0 rfl) ?_
    refine tb_ifnull (tgt := 28) hx hb dX1_set_16 (by decide) (fun e0 => ?_) (fun a14 ea14 => ?_)
    · replace h := oc_n e0 h
      subst e0
      refine lv_iload_n hx hb dX1_set_28 rfl (lv_at hl 2 rfl) ?_
      refine lv_iconst (v := (1 : Int32)) hx hb dX1_set_29 (by decide) ?_
      refine lv_icmp_ne (tgt := 47) hx hb dX1_set_30 (by decide) (fun c15 => ?_) (fun c15 => ?_)
      · replace h := sh_f c15 h
        refine lv_iload_n hx hb dX1_set_47 rfl (lv_at hl 2 rfl) ?_
        refine lv_iconst (v := (2 : Int32)) hx hb dX1_set_48 (by decide) ?_
        refine lv_icmp_ne (tgt := 73) hx hb dX1_set_49 (by decide) (fun c16 => ?_) (fun c16 => ?_)
        · replace h := sh_f c16 h
          exact tb_vretE h hx hb hr hS hW hlk dX1_set_73
        · replace h := sh_t c16 h
          refine lv_aload_n hx hb dX1_set_52 rfl (lv_at hl 1 rfl) ?_
          refine gtX1_28 hx hb hts hown hK hW cz1 dX1_set_53 ?_
          refine lv_iload_n hx hb dX1_set_56 rfl (lv_at hl 3 rfl) ?_
          refine tb_cVZ hZk hx hb hml hown hts hK hZ hW hS [.int x2] (mX2_isCopy (l := l) hZk x2 M0 (fX2_isCopy x2 M0) rfl) pmX2_isCopy tw712 (Wd.recv hK hW (t := 2) (by decide) cz2 (C := RX2) (T := TX2) (N := 5) rfl) ⟨Nat.le_of_ble_eq_true rfl, Nat.le_of_ble_eq_true rfl⟩ rfl hl.1 (Nat.le_of_ble_eq_true rfl) ⟨Nat.le_refl _, Nat.le_refl _⟩ rfl dX1_set_57 (fun H locs hW hS hzz => ?_)
          refine lv_topi (fun b17 eb17 => ?_)
          replace h := nm_a eb17 h
          have hzb17 : b17 = 0 ∨ b17 = 1 := by rw [eb17]; exact hzz
          refine lv_if_eq (tgt := 73) hx hb dX1_set_60 (by decide) (fun c18 => ?_) (fun c18 => ?_)
          · replace h := sh_t c18 h
            exact tb_vretE h hx hb hr hS hW hlk dX1_set_73
          · replace h := sh_f c18 h
            refine lv_aload_n hx hb dX1_set_63 rfl (lv_at hl 1 rfl) ?_
            refine gtX1_28 hx hb hts hown hK hW cz1 dX1_set_64 ?_
            refine gtX1_66 hx hb hts hown hK hW cz2 dX1_set_67 ?_
            refine lv_iload_n hx hb dX1_set_70 rfl (lv_at hl 3 rfl) ?_
            refine lv_iload_n hx hb dX1_set_71 rfl (lv_at hl 4 rfl) ?_
            replace h := ix_a h
            obtain ⟨hj, h⟩ := h
            refine as25 hx hb hK hW hS cz25 hj dX1_set_72 (fun H locs hW hS => ?_)
            obtain ⟨M19, eM19⟩ : ∃ y, y = msI M0 2500 0 x2.toNatClampNeg x3 := ⟨_, rfl⟩
            replace h := nm_a eM19 h
            rw [← eM19] at hW
            exact tb_vretE h hx hb hr hS hW hlk dX1_set_73
      · replace h := sh_t c15 h
        refine lv_aloadN hx hb dX1_set_33 (lv_at hl 0 rfl) ?_
        refine lv_ifnullN (tgt := 47) hx hb dX1_set_35 (by decide) ?_
        refine lv_iload_n hx hb dX1_set_47 rfl (lv_at hl 2 rfl) ?_
        refine lv_iconst (v := (2 : Int32)) hx hb dX1_set_48 (by decide) ?_
        refine lv_icmp_ne (tgt := 73) hx hb dX1_set_49 (by decide) (fun c20 => ?_) (fun c20 => ?_)
        · replace h := sh_f c20 h
          exact tb_vretE h hx hb hr hS hW hlk dX1_set_73
        · replace h := sh_t c20 h
          refine lv_aload_n hx hb dX1_set_52 rfl (lv_at hl 1 rfl) ?_
          refine gtX1_28 hx hb hts hown hK hW cz1 dX1_set_53 ?_
          refine lv_iload_n hx hb dX1_set_56 rfl (lv_at hl 3 rfl) ?_
          refine tb_cVZ hZk hx hb hml hown hts hK hZ hW hS [.int x2] (mX2_isCopy (l := l) hZk x2 M0 (fX2_isCopy x2 M0) rfl) pmX2_isCopy tw712 (Wd.recv hK hW (t := 2) (by decide) cz2 (C := RX2) (T := TX2) (N := 5) rfl) ⟨Nat.le_of_ble_eq_true rfl, Nat.le_of_ble_eq_true rfl⟩ rfl hl.1 (Nat.le_of_ble_eq_true rfl) ⟨Nat.le_refl _, Nat.le_refl _⟩ rfl dX1_set_57 (fun H locs hW hS hzz => ?_)
          refine lv_topi (fun b21 eb21 => ?_)
          replace h := nm_a eb21 h
          have hzb21 : b21 = 0 ∨ b21 = 1 := by rw [eb21]; exact hzz
          refine lv_if_eq (tgt := 73) hx hb dX1_set_60 (by decide) (fun c22 => ?_) (fun c22 => ?_)
          · replace h := sh_t c22 h
            exact tb_vretE h hx hb hr hS hW hlk dX1_set_73
          · replace h := sh_f c22 h
            refine lv_aload_n hx hb dX1_set_63 rfl (lv_at hl 1 rfl) ?_
            refine gtX1_28 hx hb hts hown hK hW cz1 dX1_set_64 ?_
            refine gtX1_66 hx hb hts hown hK hW cz2 dX1_set_67 ?_
            refine lv_iload_n hx hb dX1_set_70 rfl (lv_at hl 3 rfl) ?_
            refine lv_iload_n hx hb dX1_set_71 rfl (lv_at hl 4 rfl) ?_
            replace h := ix_a h
            obtain ⟨hj, h⟩ := h
            refine as25 hx hb hK hW hS cz25 hj dX1_set_72 (fun H locs hW hS => ?_)
            obtain ⟨M23, eM23⟩ : ∃ y, y = msI M0 2500 0 x2.toNatClampNeg x3 := ⟨_, rfl⟩
            replace h := nm_a eM23 h
            rw [← eM23] at hW
            exact tb_vretE h hx hb hr hS hW hlk dX1_set_73
    · replace h := oc_s ea14 h
      subst ea14
      have la14 := ho1 _ rfl
      refine lv_aload hx hb dX1_set_19 (lv_at hl 0 rfl) ?_
      refine lv_iload_n hx hb dX1_set_21 rfl (lv_at hl 4 rfl) ?_
      refine ptX1_52 hx hb hts hown hK hW hS la14 dX1_set_22 (fun H locs hW hS => ?_)
      obtain ⟨M24, eM24⟩ : ∃ y, y = msI M0 403 a14 0 x3 := ⟨_, rfl⟩
      replace h := nm_a eM24 h
      rw [← eM24] at hW
      refine lv_goto (tgt := 73) hx hb dX1_set_25 (by decide) ?_
      exact tb_vretE h hx hb hr hS hW hlk dX1_set_73
def fX1_make (x1 : Int32) (x2 : Int32) (x3 : Int32) (x4 : Int32) (M0 : Mem) : Option (Unit × Mem) :=
  if x4 = x3 then (some ((), M0)) else (if (mgI M0 100 0 0) < (40 : Int32) then (ix (mgI M0 100 0 0) 40 <| nm (msI M0 2100 0 ((mgI M0 100 0 0).toNatClampNeg) x1) fun M3 => ix (mgI M3 100 0 0) 40 <| nm (msI M3 2200 0 ((mgI M3 100 0 0).toNatClampNeg) x2) fun M4 => ix (mgI M4 100 0 0) 40 <| nm (msI M4 2300 0 ((mgI M4 100 0 0).toNatClampNeg) x3) fun M5 => ix (mgI M5 100 0 0) 40 <| nm (msI M5 2400 0 ((mgI M5 100 0 0).toNatClampNeg) x4) fun M6 => nm ((mgI M6 100 0 0) + (1 : Int32)) fun v7 => nm (msI M6 100 0 0 v7) fun M8 => nm (mgI M8 100 0 0) fun v9 => nm (msI M8 101 0 0 v9) fun M10 => bE (fX1_set x1 x2 x4 M10) fun u11 M12 => some ((), M12)) else (bE (fX1_forgetOldest M0) fun u13 M14 => ix (mgI M14 100 0 0) 40 <| nm (msI M14 2100 0 ((mgI M14 100 0 0).toNatClampNeg) x1) fun M15 => ix (mgI M15 100 0 0) 40 <| nm (msI M15 2200 0 ((mgI M15 100 0 0).toNatClampNeg) x2) fun M16 => ix (mgI M16 100 0 0) 40 <| nm (msI M16 2300 0 ((mgI M16 100 0 0).toNatClampNeg) x3) fun M17 => ix (mgI M17 100 0 0) 40 <| nm (msI M17 2400 0 ((mgI M17 100 0 0).toNatClampNeg) x4) fun M18 => nm ((mgI M18 100 0 0) + (1 : Int32)) fun v19 => nm (msI M18 100 0 0 v19) fun M20 => nm (mgI M20 100 0 0) fun v21 => nm (msI M20 101 0 0 v21) fun M22 => bE (fX1_set x1 x2 x4 M22) fun u23 M24 => some ((), M24)))
set_option maxHeartbeats 4000000 in
set_option maxRecDepth 100000 in
theorem mX1_make {l : Launch} {D : va_G} {cy : Nat → ClassId} {A : Nat → Prop} {K : KC} {nS nL : Nat} {ad : Nat → Nat → Nat} (hZk : ZOK A (ZC A K)) (x1 : Int32) (x2 : Int32) (x3 : Int32) (x4 : Int32) (M0 : Mem) (r : Unit) (M' : Mem) (h : fX1_make x1 x2 x3 x4 M0 = some (r, M')) : Met l yX1_make (wt yX1_make cX1_make 5 none) (rm 2 45) (CPre D cy A (ZC A K) (cnC nS nL) ad M0 [.ref (ad 1 0), .int x1, .int x2, .int x3, .int x4]) (QV D cy A (cnC nS nL) ad r M') 0 0 A := by
  refine tb_start [.ref (ad 1 0), .int x1, .int x2, .int x3, .int x4] [(0, .ref (ad 1 0)), (1, .int x1), (2, .int x2), (3, .int x3), (4, .int x4)] RX1 rfl (by decide +kernel) (Nat.le_of_ble_eq_true rfl) rfl (fun p e s m args below meth c hx hb hr hml hown hts hlk hW hK hZ ls hl => ?_)
  have hS : va_S A s.heap s.heap [] := va_S.rf
  unfold fX1_make at h
  refine lv_iload hx hb dX1_make_0 (lv_at hl 4 rfl) ?_
  refine lv_iload_n hx hb dX1_make_2 rfl (lv_at hl 3 rfl) ?_
  refine lv_icmp_ne (tgt := 7) hx hb dX1_make_3 (by decide) (fun c1 => ?_) (fun c1 => ?_)
  · replace h := sh_f c1 h
    refine lv_aload_n hx hb dX1_make_7 rfl (lv_at hl 0 rfl) ?_
    refine gtX1_32 hx hb hts hown hK hW cz1 dX1_make_8 ?_
    refine lv_bipush (v := (40 : Int32)) hx hb dX1_make_11 (by decide) ?_
    refine lv_icmp_lt (tgt := 20) hx hb dX1_make_13 (by decide) (fun c2 => ?_) (fun c2 => ?_)
    · replace h := sh_t c2 h
      refine lv_aload_n hx hb dX1_make_20 rfl (lv_at hl 0 rfl) ?_
      refine gtX1_11 hx hb hts hown hK hW cz1 dX1_make_21 ?_
      refine lv_aload_n hx hb dX1_make_24 rfl (lv_at hl 0 rfl) ?_
      refine gtX1_32 hx hb hts hown hK hW cz1 dX1_make_25 ?_
      refine lv_iload_n hx hb dX1_make_28 rfl (lv_at hl 1 rfl) ?_
      replace h := ix_a h
      obtain ⟨hj, h⟩ := h
      refine as21 hx hb hK hW hS cz21 hj dX1_make_29 (fun H locs hW hS => ?_)
      obtain ⟨M3, eM3⟩ : ∃ y, y = msI M0 2100 0 ((mgI M0 100 0 0).toNatClampNeg) x1 := ⟨_, rfl⟩
      replace h := nm_a eM3 h
      rw [← eM3] at hW
      refine lv_aload_n hx hb dX1_make_30 rfl (lv_at hl 0 rfl) ?_
      refine gtX1_15 hx hb hts hown hK hW cz1 dX1_make_31 ?_
      refine lv_aload_n hx hb dX1_make_34 rfl (lv_at hl 0 rfl) ?_
      refine gtX1_32 hx hb hts hown hK hW cz1 dX1_make_35 ?_
      refine lv_iload_n hx hb dX1_make_38 rfl (lv_at hl 2 rfl) ?_
      replace h := ix_a h
      obtain ⟨hj, h⟩ := h
      refine as22 hx hb hK hW hS cz22 hj dX1_make_39 (fun H locs hW hS => ?_)
      obtain ⟨M4, eM4⟩ : ∃ y, y = msI M3 2200 0 ((mgI M3 100 0 0).toNatClampNeg) x2 := ⟨_, rfl⟩
      replace h := nm_a eM4 h
      rw [← eM4] at hW
      refine lv_aload_n hx hb dX1_make_40 rfl (lv_at hl 0 rfl) ?_
      refine gtX1_18 hx hb hts hown hK hW cz1 dX1_make_41 ?_
      refine lv_aload_n hx hb dX1_make_44 rfl (lv_at hl 0 rfl) ?_
      refine gtX1_32 hx hb hts hown hK hW cz1 dX1_make_45 ?_
      refine lv_iload_n hx hb dX1_make_48 rfl (lv_at hl 3 rfl) ?_
      replace h := ix_a h
      obtain ⟨hj, h⟩ := h
      refine as23 hx hb hK hW hS cz23 hj dX1_make_49 (fun H locs hW hS => ?_)
      obtain ⟨M5, eM5⟩ : ∃ y, y = msI M4 2300 0 ((mgI M4 100 0 0).toNatClampNeg) x3 := ⟨_, rfl⟩
      replace h := nm_a eM5 h
      rw [← eM5] at hW
      refine lv_aload_n hx hb dX1_make_50 rfl (lv_at hl 0 rfl) ?_
      refine gtX1_21 hx hb hts hown hK hW cz1 dX1_make_51 ?_
      refine lv_aload_n hx hb dX1_make_54 rfl (lv_at hl 0 rfl) ?_
      refine gtX1_32 hx hb hts hown hK hW cz1 dX1_make_55 ?_
      refine lv_iload hx hb dX1_make_58 (lv_at hl 4 rfl) ?_
      replace h := ix_a h
      obtain ⟨hj, h⟩ := h
      refine as24 hx hb hK hW hS cz24 hj dX1_make_60 (fun H locs hW hS => ?_)
      obtain ⟨M6, eM6⟩ : ∃ y, y = msI M5 2400 0 ((mgI M5 100 0 0).toNatClampNeg) x4 := ⟨_, rfl⟩
      replace h := nm_a eM6 h
      rw [← eM6] at hW
      refine lv_aload_n hx hb dX1_make_61 rfl (lv_at hl 0 rfl) ?_
      refine lv_dup hx hb dX1_make_62 rfl ?_
      refine gtX1_32 hx hb hts hown hK hW cz1 dX1_make_63 ?_
      refine lv_iconst (v := (1 : Int32)) hx hb dX1_make_66 (by decide) ?_
      refine lv_iadd hx hb dX1_make_67 ?_
      refine lv_topi (fun v7 ev7 => ?_)
      replace h := nm_a ev7 h
      refine ptX1_32 hx hb hts hown hK hW hS cz1 dX1_make_68 (fun H locs hW hS => ?_)
      obtain ⟨M8, eM8⟩ : ∃ y, y = msI M6 100 0 0 v7 := ⟨_, rfl⟩
      replace h := nm_a eM8 h
      rw [← eM8] at hW
      refine lv_aload_n hx hb dX1_make_71 rfl (lv_at hl 0 rfl) ?_
      refine lv_aload_n hx hb dX1_make_72 rfl (lv_at hl 0 rfl) ?_
      refine gtX1_32 hx hb hts hown hK hW cz1 dX1_make_73 ?_
      refine lv_topi (fun v9 ev9 => ?_)
      replace h := nm_a ev9 h
      refine ptX1_39 hx hb hts hown hK hW hS cz1 dX1_make_76 (fun H locs hW hS => ?_)
      obtain ⟨M10, eM10⟩ : ∃ y, y = msI M8 101 0 0 v9 := ⟨_, rfl⟩
      replace h := nm_a eM10 h
      rw [← eM10] at hW
      refine lv_aload_n hx hb dX1_make_79 rfl (lv_at hl 0 rfl) ?_
      refine lv_iload_n hx hb dX1_make_80 rfl (lv_at hl 1 rfl) ?_
      refine lv_iload_n hx hb dX1_make_81 rfl (lv_at hl 2 rfl) ?_
      refine lv_iload hx hb dX1_make_82 (lv_at hl 4 rfl) ?_
      replace h := bE_a h
      obtain ⟨u11, M12, hcu11, h⟩ := h
      refine tb_cVV hZk hx hb hml hown hts hK hZ hW hS [.int x1, .int x2, .int x4] (mX1_set (l := l) hZk x1 x2 x4 M10 u11 M12 hcu11) pmX1_set tw707 (Wd.recv hK hW (t := 1) (by decide) cz1 (C := RX1) (T := TX1) (N := 8) rfl) ⟨Nat.le_of_ble_eq_true rfl, Nat.le_of_ble_eq_true rfl⟩ rfl hl.1 (Nat.le_of_ble_eq_true rfl) ⟨Nat.le_refl _, Nat.le_refl _⟩ rfl dX1_make_84 (fun H locs hW hS => ?_)
      exact tb_vretE h hx hb hr hS hW hlk dX1_make_87
    · replace h := sh_f c2 h
      refine lv_aload_n hx hb dX1_make_16 rfl (lv_at hl 0 rfl) ?_
      replace h := bE_a h
      obtain ⟨u13, M14, hcu13, h⟩ := h
      refine tb_cVV hZk hx hb hml hown hts hK hZ hW hS [] (mX1_forgetOldest (l := l) hZk M0 u13 M14 hcu13) pmX1_forgetOldest tw703 (Wd.recv hK hW (t := 1) (by decide) cz1 (C := RX1) (T := TX1) (N := 8) rfl) ⟨Nat.le_of_ble_eq_true rfl, Nat.le_of_ble_eq_true rfl⟩ rfl hl.1 (Nat.le_of_ble_eq_true rfl) ⟨Nat.le_refl _, Nat.le_refl _⟩ rfl dX1_make_17 (fun H locs hW hS => ?_)
      refine lv_aload_n hx hb dX1_make_20 rfl (lv_at hl 0 rfl) ?_
      refine gtX1_11 hx hb hts hown hK hW cz1 dX1_make_21 ?_
      refine lv_aload_n hx hb dX1_make_24 rfl (lv_at hl 0 rfl) ?_
      refine gtX1_32 hx hb hts hown hK hW cz1 dX1_make_25 ?_
      refine lv_iload_n hx hb dX1_make_28 rfl (lv_at hl 1 rfl) ?_
      replace h := ix_a h
      obtain ⟨hj, h⟩ := h
      refine as21 hx hb hK hW hS cz21 hj dX1_make_29 (fun H locs hW hS => ?_)
      obtain ⟨M15, eM15⟩ : ∃ y, y = msI M14 2100 0 ((mgI M14 100 0 0).toNatClampNeg) x1 := ⟨_, rfl⟩
      replace h := nm_a eM15 h
      rw [← eM15] at hW
      refine lv_aload_n hx hb dX1_make_30 rfl (lv_at hl 0 rfl) ?_
      refine gtX1_15 hx hb hts hown hK hW cz1 dX1_make_31 ?_
      refine lv_aload_n hx hb dX1_make_34 rfl (lv_at hl 0 rfl) ?_
      refine gtX1_32 hx hb hts hown hK hW cz1 dX1_make_35 ?_
      refine lv_iload_n hx hb dX1_make_38 rfl (lv_at hl 2 rfl) ?_
      replace h := ix_a h
      obtain ⟨hj, h⟩ := h
      refine as22 hx hb hK hW hS cz22 hj dX1_make_39 (fun H locs hW hS => ?_)
      obtain ⟨M16, eM16⟩ : ∃ y, y = msI M15 2200 0 ((mgI M15 100 0 0).toNatClampNeg) x2 := ⟨_, rfl⟩
      replace h := nm_a eM16 h
      rw [← eM16] at hW
      refine lv_aload_n hx hb dX1_make_40 rfl (lv_at hl 0 rfl) ?_
      refine gtX1_18 hx hb hts hown hK hW cz1 dX1_make_41 ?_
      refine lv_aload_n hx hb dX1_make_44 rfl (lv_at hl 0 rfl) ?_
      refine gtX1_32 hx hb hts hown hK hW cz1 dX1_make_45 ?_
      refine lv_iload_n hx hb dX1_make_48 rfl (lv_at hl 3 rfl) ?_
      replace h := ix_a h
      obtain ⟨hj, h⟩ := h
      refine as23 hx hb hK hW hS cz23 hj dX1_make_49 (fun H locs hW hS => ?_)
      obtain ⟨M17, eM17⟩ : ∃ y, y = msI M16 2300 0 ((mgI M16 100 0 0).toNatClampNeg) x3 := ⟨_, rfl⟩
      replace h := nm_a eM17 h
      rw [← eM17] at hW
      refine lv_aload_n hx hb dX1_make_50 rfl (lv_at hl 0 rfl) ?_
      refine gtX1_21 hx hb hts hown hK hW cz1 dX1_make_51 ?_
      refine lv_aload_n hx hb dX1_make_54 rfl (lv_at hl 0 rfl) ?_
      refine gtX1_32 hx hb hts hown hK hW cz1 dX1_make_55 ?_
      refine lv_iload hx hb dX1_make_58 (lv_at hl 4 rfl) ?_
      replace h := ix_a h
      obtain ⟨hj, h⟩ := h
      refine as24 hx hb hK hW hS cz24 hj dX1_make_60 (fun H locs hW hS => ?_)
      obtain ⟨M18, eM18⟩ : ∃ y, y = msI M17 2400 0 ((mgI M17 100 0 0).toNatClampNeg) x4 := ⟨_, rfl⟩
      replace h := nm_a eM18 h
      rw [← eM18] at hW
      refine lv_aload_n hx hb dX1_make_61 rfl (lv_at hl 0 rfl) ?_
      refine lv_dup hx hb dX1_make_62 rfl ?_
      refine gtX1_32 hx hb hts hown hK hW cz1 dX1_make_63 ?_
      refine lv_iconst (v := (1 : Int32)) hx hb dX1_make_66 (by decide) ?_
      refine lv_iadd hx hb dX1_make_67 ?_
      refine lv_topi (fun v19 ev19 => ?_)
      replace h := nm_a ev19 h
      refine ptX1_32 hx hb hts hown hK hW hS cz1 dX1_make_68 (fun H locs hW hS => ?_)
      obtain ⟨M20, eM20⟩ : ∃ y, y = msI M18 100 0 0 v19 := ⟨_, rfl⟩
      replace h := nm_a eM20 h
      rw [← eM20] at hW
      refine lv_aload_n hx hb dX1_make_71 rfl (lv_at hl 0 rfl) ?_
      refine lv_aload_n hx hb dX1_make_72 rfl (lv_at hl 0 rfl) ?_
      refine gtX1_32 hx hb hts hown hK hW cz1 dX1_make_73 ?_
      refine lv_topi (fun v21 ev21 => ?_)
      replace h := nm_a ev21 h
      refine ptX1_39 hx hb hts hown hK hW hS cz1 dX1_make_76 (fun H locs hW hS => ?_)
      obtain ⟨M22, eM22⟩ : ∃ y, y = msI M20 101 0 0 v21 := ⟨_, rfl⟩
      replace h := nm_a eM22 h
      rw [← eM22] at hW
      refine lv_aload_n hx hb dX1_make_79 rfl (lv_at hl 0 rfl) ?_
      refine lv_iload_n hx hb dX1_make_80 rfl (lv_at hl 1 rfl) ?_
      refine lv_iload_n hx hb dX1_make_81 rfl (lv_at hl 2 rfl) ?_
      refine lv_iload hx hb dX1_make_82 (lv_at hl 4 rfl) ?_
      replace h := bE_a h
      obtain ⟨u23, M24, hcu23, h⟩ := h
      refine tb_cVV hZk hx hb hml hown hts hK hZ hW hS [.int x1, .int x2, .int x4] (mX1_set (l := l) hZk x1 x2 x4 M22 u23 M24 hcu23) pmX1_set tw707 (Wd.recv hK hW (t := 1) (by decide) cz1 (C := RX1) (T := TX1) (N := 8) rfl) ⟨Nat.le_of_ble_eq_true rfl, Nat.le_of_ble_eq_true rfl⟩ rfl hl.1 (Nat.le_of_ble_eq_true rfl) ⟨Nat.le_refl _, Nat.le_refl _⟩ rfl dX1_make_84 (fun H locs hW hS => ?_)
      exact tb_vretE h hx hb hr hS hW hlk dX1_make_87
  · replace h := sh_t c1 h
    exact tb_vretE h hx hb hr hS hW hlk dX1_make_6
def fX1_goBack (M0 : Mem) : Option (Int32 × Mem) :=
  if 0 < (mgI M0 100 0 0) then (nm ((mgI M0 100 0 0) - (1 : Int32)) fun v2 => nm (msI M0 100 0 0 v2) fun M3 => ix (mgI M3 100 0 0) 40 <| ix (mgI M3 100 0 0) 40 <| ix (mgI M3 100 0 0) 40 <| bE (fX1_set (mgI M3 2100 0 (mgI M3 100 0 0).toNatClampNeg) (mgI M3 2200 0 (mgI M3 100 0 0).toNatClampNeg) (mgI M3 2300 0 (mgI M3 100 0 0).toNatClampNeg) M3) fun u4 M5 => some ((1 : Int32), M5)) else (some ((0 : Int32), M0))
set_option maxHeartbeats 4000000 in
set_option maxRecDepth 100000 in
theorem mX1_goBack {l : Launch} {D : va_G} {cy : Nat → ClassId} {A : Nat → Prop} {K : KC} {nS nL : Nat} {ad : Nat → Nat → Nat} (hZk : ZOK A (ZC A K)) (M0 : Mem) (r : Int32) (M' : Mem) (h : fX1_goBack M0 = some (r, M')) : Met l yX1_goBack (wt yX1_goBack cX1_goBack 1 (some .boolean)) (rm 2 45) (CPre D cy A (ZC A K) (cnC nS nL) ad M0 [.ref (ad 1 0)]) (QZ D cy A (cnC nS nL) ad r M') 0 0 A := by
  refine tb_start [.ref (ad 1 0)] [(0, .ref (ad 1 0))] RX1 rfl (by decide +kernel) (Nat.le_of_ble_eq_true rfl) rfl (fun p e s m args below meth c hx hb hr hml hown hts hlk hW hK hZ ls hl => ?_)
  have hS : va_S A s.heap s.heap [] := va_S.rf
  unfold fX1_goBack at h
  refine lv_aload_n hx hb dX1_goBack_0 rfl (lv_at hl 0 rfl) ?_
  refine gtX1_32 hx hb hts hown hK hW cz1 dX1_goBack_1 ?_
  refine lv_if_gt (tgt := 9) hx hb dX1_goBack_4 (by decide) (fun c1 => ?_) (fun c1 => ?_)
  · replace h := sh_t c1 h
    refine lv_aload_n hx hb dX1_goBack_9 rfl (lv_at hl 0 rfl) ?_
    refine lv_dup hx hb dX1_goBack_10 rfl ?_
    refine gtX1_32 hx hb hts hown hK hW cz1 dX1_goBack_11 ?_
    refine lv_iconst (v := (1 : Int32)) hx hb dX1_goBack_14 (by decide) ?_
    refine lv_isub hx hb dX1_goBack_15 ?_
    refine lv_topi (fun v2 ev2 => ?_)
    replace h := nm_a ev2 h
    refine ptX1_32 hx hb hts hown hK hW hS cz1 dX1_goBack_16 (fun H locs hW hS => ?_)
    obtain ⟨M3, eM3⟩ : ∃ y, y = msI M0 100 0 0 v2 := ⟨_, rfl⟩
    replace h := nm_a eM3 h
    rw [← eM3] at hW
    refine lv_aload_n hx hb dX1_goBack_19 rfl (lv_at hl 0 rfl) ?_
    refine lv_aload_n hx hb dX1_goBack_20 rfl (lv_at hl 0 rfl) ?_
    refine gtX1_11 hx hb hts hown hK hW cz1 dX1_goBack_21 ?_
    refine lv_aload_n hx hb dX1_goBack_24 rfl (lv_at hl 0 rfl) ?_
    refine gtX1_32 hx hb hts hown hK hW cz1 dX1_goBack_25 ?_
    replace h := ix_a h
    obtain ⟨hj, h⟩ := h
    refine al21 hx hb hK hW cz21 hj dX1_goBack_28 ?_
    refine lv_aload_n hx hb dX1_goBack_29 rfl (lv_at hl 0 rfl) ?_
    refine gtX1_15 hx hb hts hown hK hW cz1 dX1_goBack_30 ?_
    refine lv_aload_n hx hb dX1_goBack_33 rfl (lv_at hl 0 rfl) ?_
    refine gtX1_32 hx hb hts hown hK hW cz1 dX1_goBack_34 ?_
    replace h := ix_a h
    obtain ⟨hj, h⟩ := h
    refine al22 hx hb hK hW cz22 hj dX1_goBack_37 ?_
    refine lv_aload_n hx hb dX1_goBack_38 rfl (lv_at hl 0 rfl) ?_
    refine gtX1_18 hx hb hts hown hK hW cz1 dX1_goBack_39 ?_
    refine lv_aload_n hx hb dX1_goBack_42 rfl (lv_at hl 0 rfl) ?_
    refine gtX1_32 hx hb hts hown hK hW cz1 dX1_goBack_43 ?_
    replace h := ix_a h
    obtain ⟨hj, h⟩ := h
    refine al23 hx hb hK hW cz23 hj dX1_goBack_46 ?_
    replace h := bE_a h
    obtain ⟨u4, M5, hcu4, h⟩ := h
    refine tb_cVV hZk hx hb hml hown hts hK hZ hW hS [.int (mgI M3 2100 0 (mgI M3 100 0 0).toNatClampNeg), .int (mgI M3 2200 0 (mgI M3 100 0 0).toNatClampNeg), .int (mgI M3 2300 0 (mgI M3 100 0 0).toNatClampNeg)] (mX1_set (l := l) hZk (mgI M3 2100 0 (mgI M3 100 0 0).toNatClampNeg) (mgI M3 2200 0 (mgI M3 100 0 0).toNatClampNeg) (mgI M3 2300 0 (mgI M3 100 0 0).toNatClampNeg) M3 u4 M5 hcu4) pmX1_set tw707 (Wd.recv hK hW (t := 1) (by decide) cz1 (C := RX1) (T := TX1) (N := 8) rfl) ⟨Nat.le_of_ble_eq_true rfl, Nat.le_of_ble_eq_true rfl⟩ rfl hl.1 (Nat.le_of_ble_eq_true rfl) ⟨Nat.le_refl _, Nat.le_refl _⟩ rfl dX1_goBack_47 (fun H locs hW hS => ?_)
    refine lv_iconst (v := (1 : Int32)) hx hb dX1_goBack_50 (by decide) ?_
    exact tb_zretE h hx hb hr hS hW hlk (by decide) dX1_goBack_51
  · replace h := sh_f c1 h
    refine lv_iconst (v := (0 : Int32)) hx hb dX1_goBack_7 (by decide) ?_
    exact tb_zretE h hx hb hr hS hW hlk (by decide) dX1_goBack_8
def fX1_goOn (M0 : Mem) : Option (Int32 × Mem) :=
  if (mgI M0 101 0 0) ≤ (mgI M0 100 0 0) then (some ((0 : Int32), M0)) else (if (mgI M0 100 0 0) < (40 : Int32) then (ix (mgI M0 100 0 0) 40 <| ix (mgI M0 100 0 0) 40 <| ix (mgI M0 100 0 0) 40 <| bE (fX1_set (mgI M0 2100 0 (mgI M0 100 0 0).toNatClampNeg) (mgI M0 2200 0 (mgI M0 100 0 0).toNatClampNeg) (mgI M0 2400 0 (mgI M0 100 0 0).toNatClampNeg) M0) fun u3 M4 => nm ((mgI M4 100 0 0) + (1 : Int32)) fun v5 => nm (msI M4 100 0 0 v5) fun M6 => some ((1 : Int32), M6)) else (some ((0 : Int32), M0)))
set_option maxHeartbeats 4000000 in
set_option maxRecDepth 100000 in
theorem mX1_goOn {l : Launch} {D : va_G} {cy : Nat → ClassId} {A : Nat → Prop} {K : KC} {nS nL : Nat} {ad : Nat → Nat → Nat} (hZk : ZOK A (ZC A K)) (M0 : Mem) (r : Int32) (M' : Mem) (h : fX1_goOn M0 = some (r, M')) : Met l yX1_goOn (wt yX1_goOn cX1_goOn 1 (some .boolean)) (rm 2 45) (CPre D cy A (ZC A K) (cnC nS nL) ad M0 [.ref (ad 1 0)]) (QZ D cy A (cnC nS nL) ad r M') 0 0 A := by
  refine tb_start [.ref (ad 1 0)] [(0, .ref (ad 1 0))] RX1 rfl (by decide +kernel) (Nat.le_of_ble_eq_true rfl) rfl (fun p e s m args below meth c hx hb hr hml hown hts hlk hW hK hZ ls hl => ?_)
  have hS : va_S A s.heap s.heap [] := va_S.rf
  unfold fX1_goOn at h
  refine lv_aload_n hx hb dX1_goOn_0 rfl (lv_at hl 0 rfl) ?_
  refine gtX1_32 hx hb hts hown hK hW cz1 dX1_goOn_1 ?_
  refine lv_aload_n hx hb dX1_goOn_4 rfl (lv_at hl 0 rfl) ?_
  refine gtX1_39 hx hb hts hown hK hW cz1 dX1_goOn_5 ?_
  refine lv_icmp_ge (tgt := 20) hx hb dX1_goOn_8 (by decide) (fun c1 => ?_) (fun c1 => ?_)
  · replace h := sh_t c1 h
    refine lv_iconst (v := (0 : Int32)) hx hb dX1_goOn_20 (by decide) ?_
    exact tb_zretE h hx hb hr hS hW hlk (by decide) dX1_goOn_21
  · replace h := sh_f c1 h
    refine lv_aload_n hx hb dX1_goOn_11 rfl (lv_at hl 0 rfl) ?_
    refine gtX1_32 hx hb hts hown hK hW cz1 dX1_goOn_12 ?_
    refine lv_bipush (v := (40 : Int32)) hx hb dX1_goOn_15 (by decide) ?_
    refine lv_icmp_lt (tgt := 22) hx hb dX1_goOn_17 (by decide) (fun c2 => ?_) (fun c2 => ?_)
    · replace h := sh_t c2 h
      refine lv_aload_n hx hb dX1_goOn_22 rfl (lv_at hl 0 rfl) ?_
      refine lv_aload_n hx hb dX1_goOn_23 rfl (lv_at hl 0 rfl) ?_
      refine gtX1_11 hx hb hts hown hK hW cz1 dX1_goOn_24 ?_
      refine lv_aload_n hx hb dX1_goOn_27 rfl (lv_at hl 0 rfl) ?_
      refine gtX1_32 hx hb hts hown hK hW cz1 dX1_goOn_28 ?_
      replace h := ix_a h
      obtain ⟨hj, h⟩ := h
      refine al21 hx hb hK hW cz21 hj dX1_goOn_31 ?_
      refine lv_aload_n hx hb dX1_goOn_32 rfl (lv_at hl 0 rfl) ?_
      refine gtX1_15 hx hb hts hown hK hW cz1 dX1_goOn_33 ?_
      refine lv_aload_n hx hb dX1_goOn_36 rfl (lv_at hl 0 rfl) ?_
      refine gtX1_32 hx hb hts hown hK hW cz1 dX1_goOn_37 ?_
      replace h := ix_a h
      obtain ⟨hj, h⟩ := h
      refine al22 hx hb hK hW cz22 hj dX1_goOn_40 ?_
      refine lv_aload_n hx hb dX1_goOn_41 rfl (lv_at hl 0 rfl) ?_
      refine gtX1_21 hx hb hts hown hK hW cz1 dX1_goOn_42 ?_
      refine lv_aload_n hx hb dX1_goOn_45 rfl (lv_at hl 0 rfl) ?_
      refine gtX1_32 hx hb hts hown hK hW cz1 dX1_goOn_46 ?_
      replace h := ix_a h
      obtain ⟨hj, h⟩ := h
      refine al24 hx hb hK hW cz24 hj dX1_goOn_49 ?_
      replace h := bE_a h
      obtain ⟨u3, M4, hcu3, h⟩ := h
      refine tb_cVV hZk hx hb hml hown hts hK hZ hW hS [.int (mgI M0 2100 0 (mgI M0 100 0 0).toNatClampNeg), .int (mgI M0 2200 0 (mgI M0 100 0 0).toNatClampNeg), .int (mgI M0 2400 0 (mgI M0 100 0 0).toNatClampNeg)] (mX1_set (l := l) hZk (mgI M0 2100 0 (mgI M0 100 0 0).toNatClampNeg) (mgI M0 2200 0 (mgI M0 100 0 0).toNatClampNeg) (mgI M0 2400 0 (mgI M0 100 0 0).toNatClampNeg) M0 u3 M4 hcu3) pmX1_set tw707 (Wd.recv hK hW (t := 1) (by decide) cz1 (C := RX1) (T := TX1) (N := 8) rfl) ⟨Nat.le_of_ble_eq_true rfl, Nat.le_of_ble_eq_true rfl⟩ rfl hl.1 (Nat.le_of_ble_eq_true rfl) ⟨Nat.le_refl _, Nat.le_refl _⟩ rfl dX1_goOn_50 (fun H locs hW hS => ?_)
      refine lv_aload_n hx hb dX1_goOn_53 rfl (lv_at hl 0 rfl) ?_
      refine lv_dup hx hb dX1_goOn_54 rfl ?_
      refine gtX1_32 hx hb hts hown hK hW cz1 dX1_goOn_55 ?_
      refine lv_iconst (v := (1 : Int32)) hx hb dX1_goOn_58 (by decide) ?_
      refine lv_iadd hx hb dX1_goOn_59 ?_
      refine lv_topi (fun v5 ev5 => ?_)
      replace h := nm_a ev5 h
      refine ptX1_32 hx hb hts hown hK hW hS cz1 dX1_goOn_60 (fun H locs hW hS => ?_)
      obtain ⟨M6, eM6⟩ : ∃ y, y = msI M4 100 0 0 v5 := ⟨_, rfl⟩
      replace h := nm_a eM6 h
      rw [← eM6] at hW
      refine lv_iconst (v := (1 : Int32)) hx hb dX1_goOn_63 (by decide) ?_
      exact tb_zretE h hx hb hr hS hW hlk (by decide) dX1_goOn_64
    · replace h := sh_f c2 h
      refine lv_iconst (v := (0 : Int32)) hx hb dX1_goOn_20 (by decide) ?_
      exact tb_zretE h hx hb hr hS hW hlk (by decide) dX1_goOn_21
def fX2_add (x1 : Int32) (x2 : Int32) (M0 : Mem) : Option (Int32 × Mem) :=
  ix (mgI M0 201 0 0) 60 <| nm (msI M0 2600 0 ((mgI M0 201 0 0).toNatClampNeg) x1) fun M1 => ix (mgI M1 201 0 0) 60 <| nm (msI M1 2700 0 ((mgI M1 201 0 0).toNatClampNeg) x2) fun M2 => ix (mgI M2 201 0 0) 60 <| nm (msI M2 2500 0 ((mgI M2 201 0 0).toNatClampNeg) (-1 : Int32)) fun M3 => nm (mgI M3 201 0 0) fun v4 => nm (v4 + (1 : Int32)) fun v5 => nm (msI M3 201 0 0 v5) fun M6 => some (v4, M6)
set_option maxHeartbeats 4000000 in
set_option maxRecDepth 100000 in
theorem mX2_add {l : Launch} {D : va_G} {cy : Nat → ClassId} {A : Nat → Prop} {K : KC} {nS nL : Nat} {ad : Nat → Nat → Nat} (hZk : ZOK A (ZC A K)) (x1 : Int32) (x2 : Int32) (M0 : Mem) (r : Int32) (M' : Mem) (h : fX2_add x1 x2 M0 = some (r, M')) : Met l yX2_add (wt yX2_add cX2_add 3 (some .int)) (rm 0 0) (CPre D cy A (ZC A K) (cnC nS nL) ad M0 [.ref (ad 2 0), .int x1, .int x2]) (QI D cy A (cnC nS nL) ad r M') 0 0 A := by
  refine tb_start [.ref (ad 2 0), .int x1, .int x2] [(0, .ref (ad 2 0)), (1, .int x1), (2, .int x2)] RX2 rfl (by decide +kernel) (Nat.le_of_ble_eq_true rfl) rfl (fun p e s m args below meth c hx hb hr hml hown hts hlk hW hK hZ ls hl => ?_)
  have hS : va_S A s.heap s.heap [] := va_S.rf
  unfold fX2_add at h
  refine lv_aload_n hx hb dX2_add_0 rfl (lv_at hl 0 rfl) ?_
  refine gtX2_15 hx hb hts hown hK hW cz2 dX2_add_1 ?_
  refine lv_aload_n hx hb dX2_add_4 rfl (lv_at hl 0 rfl) ?_
  refine gtX2_25 hx hb hts hown hK hW cz2 dX2_add_5 ?_
  refine lv_iload_n hx hb dX2_add_8 rfl (lv_at hl 1 rfl) ?_
  replace h := ix_a h
  obtain ⟨hj, h⟩ := h
  refine as26 hx hb hK hW hS cz26 hj dX2_add_9 (fun H locs hW hS => ?_)
  obtain ⟨M1, eM1⟩ : ∃ y, y = msI M0 2600 0 ((mgI M0 201 0 0).toNatClampNeg) x1 := ⟨_, rfl⟩
  replace h := nm_a eM1 h
  rw [← eM1] at hW
  refine lv_aload_n hx hb dX2_add_10 rfl (lv_at hl 0 rfl) ?_
  refine gtX2_18 hx hb hts hown hK hW cz2 dX2_add_11 ?_
  refine lv_aload_n hx hb dX2_add_14 rfl (lv_at hl 0 rfl) ?_
  refine gtX2_25 hx hb hts hown hK hW cz2 dX2_add_15 ?_
  refine lv_iload_n hx hb dX2_add_18 rfl (lv_at hl 2 rfl) ?_
  replace h := ix_a h
  obtain ⟨hj, h⟩ := h
  refine as27 hx hb hK hW hS cz27 hj dX2_add_19 (fun H locs hW hS => ?_)
  obtain ⟨M2, eM2⟩ : ∃ y, y = msI M1 2700 0 ((mgI M1 201 0 0).toNatClampNeg) x2 := ⟨_, rfl⟩
  replace h := nm_a eM2 h
  rw [← eM2] at hW
  refine lv_aload_n hx hb dX2_add_20 rfl (lv_at hl 0 rfl) ?_
  refine gtX2_9 hx hb hts hown hK hW cz2 dX2_add_21 ?_
  refine lv_aload_n hx hb dX2_add_24 rfl (lv_at hl 0 rfl) ?_
  refine gtX2_25 hx hb hts hown hK hW cz2 dX2_add_25 ?_
  refine lv_iconst (v := (-1 : Int32)) hx hb dX2_add_28 (by decide) ?_
  replace h := ix_a h
  obtain ⟨hj, h⟩ := h
  refine as25 hx hb hK hW hS cz25 hj dX2_add_29 (fun H locs hW hS => ?_)
  obtain ⟨M3, eM3⟩ : ∃ y, y = msI M2 2500 0 ((mgI M2 201 0 0).toNatClampNeg) (-1 : Int32) := ⟨_, rfl⟩
  replace h := nm_a eM3 h
  rw [← eM3] at hW
  refine lv_aload_n hx hb dX2_add_30 rfl (lv_at hl 0 rfl) ?_
  refine lv_dup hx hb dX2_add_31 rfl ?_
  refine gtX2_25 hx hb hts hown hK hW cz2 dX2_add_32 ?_
  refine lv_topi (fun v4 ev4 => ?_)
  replace h := nm_a ev4 h
  refine lv_dup_x1 hx hb dX2_add_35 rfl rfl ?_
  refine lv_iconst (v := (1 : Int32)) hx hb dX2_add_36 (by decide) ?_
  refine lv_iadd hx hb dX2_add_37 ?_
  refine lv_topi (fun v5 ev5 => ?_)
  replace h := nm_a ev5 h
  refine ptX2_25 hx hb hts hown hK hW hS cz2 dX2_add_38 (fun H locs hW hS => ?_)
  obtain ⟨M6, eM6⟩ : ∃ y, y = msI M3 201 0 0 v5 := ⟨_, rfl⟩
  replace h := nm_a eM6 h
  rw [← eM6] at hW
  exact tb_iretE h hx hb hr hS hW hlk dX2_add_41
def fX11_isIn (x0 : Int64) (x2 : Int32) : Int32 :=
  if (lg_cmp (((x0.toUInt64 >>> (x2.toInt64.toUInt64 &&& Int64.toUInt64 63)).toInt64) &&& (1 : Int64)) (0 : Int64)) = 0 then ((0 : Int32)) else ((1 : Int32))
set_option maxHeartbeats 4000000 in
set_option maxRecDepth 100000 in
theorem mX11_isIn {l : Launch} {D : va_G} {cy : Nat → ClassId} {A : Nat → Prop} {K : KC} {nS nL : Nat} {ad : Nat → Nat → Nat} (hZk : ZOK A (ZC A K)) (x0 : Int64) (x2 : Int32) (M0 : Mem) (r : Int32) (h : fX11_isIn x0 x2 = r) : Met l yX11_isIn (wt yX11_isIn cX11_isIn 3 (some .boolean)) (rm 0 0) (CPre D cy A (ZC A K) (cnC nS nL) ad M0 [.long x0, .int x2]) (QZ D cy A (cnC nS nL) ad r M0) 0 0 A := by
  refine tb_start [.long x0, .int x2] [(0, .long x0), (2, .int x2)] RX11 rfl (by decide +kernel) (Nat.le_of_ble_eq_true rfl) rfl (fun p e s m args below meth c hx hb hr hml hown hts hlk hW hK hZ ls hl => ?_)
  have hS : va_S A s.heap s.heap [] := va_S.rf
  unfold fX11_isIn at h
  refine lv_lload_n hx hb dX11_isIn_0 rfl (lv_at hl 0 rfl) ?_
  refine lv_iload_n hx hb dX11_isIn_1 rfl (lv_at hl 1 rfl) ?_
  refine lv_lushr hx hb dX11_isIn_2 rfl ?_
  refine lv_lconst (v := (1 : Int64)) hx hb dX11_isIn_3 (by decide) ?_
  refine lv_land hx hb dX11_isIn_4 ?_
  refine lv_lconst (v := (0 : Int64)) hx hb dX11_isIn_5 (by decide) ?_
  refine W.lcmp hx hb dX11_isIn_6 ?_
  refine lv_if_eq (tgt := 14) hx hb dX11_isIn_7 (by decide) (fun c1 => ?_) (fun c1 => ?_)
  · replace h := sh_t c1 h
    refine lv_iconst (v := (0 : Int32)) hx hb dX11_isIn_14 (by decide) ?_
    exact tb_zretP h hx hb hr hS hW hlk (by decide) dX11_isIn_15
  · replace h := sh_f c1 h
    refine lv_iconst (v := (1 : Int32)) hx hb dX11_isIn_10 (by decide) ?_
    refine lv_goto (tgt := 15) hx hb dX11_isIn_11 (by decide) ?_
    exact tb_zretP h hx hb hr hS hW hlk (by decide) dX11_isIn_15
def fX11_bit (x0 : Int32) : Int64 :=
  (1 : Int64) <<< (x0.toInt64 &&& 63)
set_option maxHeartbeats 4000000 in
set_option maxRecDepth 100000 in
theorem mX11_bit {l : Launch} {D : va_G} {cy : Nat → ClassId} {A : Nat → Prop} {K : KC} {nS nL : Nat} {ad : Nat → Nat → Nat} (hZk : ZOK A (ZC A K)) (x0 : Int32) (M0 : Mem) (r : Int64) (h : fX11_bit x0 = r) : Met l yX11_bit (wt yX11_bit cX11_bit 1 (some .long)) (rm 0 0) (CPre D cy A (ZC A K) (cnC nS nL) ad M0 [.int x0]) (QL D cy A (cnC nS nL) ad r M0) 0 0 A := by
  refine tb_start [.int x0] [(0, .int x0)] RX11 rfl (by decide +kernel) (Nat.le_of_ble_eq_true rfl) rfl (fun p e s m args below meth c hx hb hr hml hown hts hlk hW hK hZ ls hl => ?_)
  have hS : va_S A s.heap s.heap [] := va_S.rf
  unfold fX11_bit at h
  refine lv_lconst (v := (1 : Int64)) hx hb dX11_bit_0 (by decide) ?_
  refine lv_iload_n hx hb dX11_bit_1 rfl (lv_at hl 0 rfl) ?_
  refine lv_lshl hx hb dX11_bit_2 rfl ?_
  exact tb_lretP h hx hb hr hS hW hlk dX11_bit_3
def fX2_unmarkedOf_b5 (M0 : Mem) (x1 : Int64) (k1 : Int64 → Int32 → Option Int64) (j2 : Int64) (i3 : Int32) : Option Int64 :=
  if (mgI M0 201 0 0) ≤ i3 then (some j2) else (ix i3 60 <| if 0 ≤ (mgI M0 2500 0 i3.toNatClampNeg) then (nm (i3 + (1 : Int32)) fun v6 => k1 j2 v6) else (ix i3 60 <| nm (fX11_isIn (x1 &&& (mgL M0 505 0 0)) (mgI M0 2600 0 i3.toNatClampNeg)) fun b7 => if b7 = 0 then (nm (i3 + (1 : Int32)) fun v9 => k1 j2 v9) else (nm (j2 ||| (fX11_bit i3)) fun v10 => nm (i3 + (1 : Int32)) fun v11 => k1 v10 v11)))
def fX2_unmarkedOf_l5 (M0 : Mem) (x1 : Int64) : Nat → Int64 → Int32 → Option Int64
  | 0, _, _ => none
  | n + 1, j2, i3 => fX2_unmarkedOf_b5 M0 x1 (fX2_unmarkedOf_l5 M0 x1 n) j2 i3
def fX2_unmarkedOf (x1 : Int64) (M0 : Mem) : Option Int64 :=
  fX2_unmarkedOf_l5 M0 x1 FU (0 : Int64) (0 : Int32)
set_option maxHeartbeats 4000000 in
set_option maxRecDepth 100000 in
theorem mX2_unmarkedOf {l : Launch} {D : va_G} {cy : Nat → ClassId} {A : Nat → Prop} {K : KC} {nS nL : Nat} {ad : Nat → Nat → Nat} (hZk : ZOK A (ZC A K)) (x1 : Int64) (M0 : Mem) (r : Int64) (h : fX2_unmarkedOf x1 M0 = some r) : Met l yX2_unmarkedOf (wt yX2_unmarkedOf cX2_unmarkedOf 6 (some .long)) (rm 1 22) (CPre D cy A (ZC A K) (cnC nS nL) ad M0 [.ref (ad 2 0), .long x1]) (QL D cy A (cnC nS nL) ad r M0) 0 0 A := by
  refine tb_start [.ref (ad 2 0), .long x1] [(0, .ref (ad 2 0)), (1, .long x1)] RX2 rfl (by decide +kernel) (Nat.le_of_ble_eq_true rfl) rfl (fun p e s m args below meth c hx hb hr hml hown hts hlk hW hK hZ ls hl => ?_)
  have hS : va_S A s.heap s.heap [] := va_S.rf
  unfold fX2_unmarkedOf at h
  refine lv_lconst (v := (0 : Int64)) hx hb dX2_unmarkedOf_0 (by decide) ?_
  refine lv_lstore_n (lv' := [(3, .long (0 : Int64)), (0, .ref (ad 2 0)), (1, .long x1)]) hx hb dX2_unmarkedOf_1 rfl hl (by decide) rfl (fun ls hl => ?_)
  refine lv_iconst (v := (0 : Int32)) hx hb dX2_unmarkedOf_2 (by decide) ?_
  refine lv_istore (lv' := [(5, .int (0 : Int32)), (3, .long (0 : Int64)), (0, .ref (ad 2 0)), (1, .long x1)]) hx hb dX2_unmarkedOf_3 hl (by decide) rfl (fun ls hl => ?_)
  have L1 : ∀ (n1 : Nat) (j2 : Int64) (i3 : Int32) (H : Heap) (locs : List Loc) (ls : Array Slot), Wd D cy A (cnC nS nL) ad M0 H → va_S A s.heap H locs → lv_has ls 6 [(0, .ref (ad 2 0)), (1, .long x1), (3, .long j2), (5, .int i3)] → fX2_unmarkedOf_l5 M0 x1 n1 j2 i3 = some r → W p l e (rm 1 22) s m args below meth c H locs 0 0 (MQ below (QL D cy A (cnC nS nL) ad r M0) args s 0 0 A) (F0 m 5 ls []) := by
    intro n1
    induction n1 with
    | zero => intro j2 i3 H locs ls hW hS hl h; cases h
    | succ n1 ih1 =>
      intro j2 i3 H locs ls hW hS hl h
      unfold fX2_unmarkedOf_l5 fX2_unmarkedOf_b5 at h
      refine lv_iload hx hb dX2_unmarkedOf_5 (lv_at hl 3 rfl) ?_
      refine lv_aload_n hx hb dX2_unmarkedOf_7 rfl (lv_at hl 0 rfl) ?_
      refine gtX2_25 hx hb hts hown hK hW cz2 dX2_unmarkedOf_8 ?_
      refine lv_icmp_ge (tgt := 60) hx hb dX2_unmarkedOf_11 (by decide) (fun c4 => ?_) (fun c4 => ?_)
      · replace h := sh_t c4 h
        refine lv_lload_n hx hb dX2_unmarkedOf_60 rfl (lv_at hl 2 rfl) ?_
        exact tb_lretO h hx hb hr hS hW hlk dX2_unmarkedOf_61
      · replace h := sh_f c4 h
        refine lv_aload_n hx hb dX2_unmarkedOf_14 rfl (lv_at hl 0 rfl) ?_
        refine gtX2_9 hx hb hts hown hK hW cz2 dX2_unmarkedOf_15 ?_
        refine lv_iload hx hb dX2_unmarkedOf_18 (lv_at hl 3 rfl) ?_
        replace h := ix_a h
        obtain ⟨hj, h⟩ := h
        refine al25 hx hb hK hW cz25 hj dX2_unmarkedOf_20 ?_
        refine lv_if_ge (tgt := 54) hx hb dX2_unmarkedOf_21 (by decide) (fun c5 => ?_) (fun c5 => ?_)
        · replace h := sh_t c5 h
          obtain ⟨v6, ev6⟩ : ∃ y : Int32, y = i3 + (1 : Int32) := ⟨_, rfl⟩
          replace h := nm_a ev6 h
          refine lv_iinc (v := v6) (lv' := [(5, .int v6), (0, .ref (ad 2 0)), (1, .long x1), (3, .long j2)]) hx hb dX2_unmarkedOf_54 hl (k := 3) rfl (by rw [ev6]; rfl) (by decide) rfl (fun ls hl => ?_)
          refine lv_goto (tgt := 5) hx hb dX2_unmarkedOf_57 (by decide) ?_
          exact ih1 j2 v6 _ _ _ hW hS (lv_sub hl [1, 2, 3, 0] rfl) h
        · replace h := sh_f c5 h
          refine lv_lload_n hx hb dX2_unmarkedOf_24 rfl (lv_at hl 1 rfl) ?_
          refine lv_aload_n hx hb dX2_unmarkedOf_25 rfl (lv_at hl 0 rfl) ?_
          refine gtX2_21 hx hb hts hown hK hW cz2 dX2_unmarkedOf_26 ?_
          refine gtX2_29 hx hb hts hown hK hW cz5 dX2_unmarkedOf_29 ?_
          refine lv_land hx hb dX2_unmarkedOf_32 ?_
          refine lv_aload_n hx hb dX2_unmarkedOf_33 rfl (lv_at hl 0 rfl) ?_
          refine gtX2_15 hx hb hts hown hK hW cz2 dX2_unmarkedOf_34 ?_
          refine lv_iload hx hb dX2_unmarkedOf_37 (lv_at hl 3 rfl) ?_
          replace h := ix_a h
          obtain ⟨hj, h⟩ := h
          refine al26 hx hb hK hW cz26 hj dX2_unmarkedOf_39 ?_
          refine tb_cNZ hZk hx hb hml hown hts hK hZ hW hS [.long (x1 &&& (mgL M0 505 0 0)), .int (mgI M0 2600 0 i3.toNatClampNeg)] (mX11_isIn (l := l) hZk (x1 &&& (mgL M0 505 0 0)) (mgI M0 2600 0 i3.toNatClampNeg) M0 (fX11_isIn (x1 &&& (mgL M0 505 0 0)) (mgI M0 2600 0 i3.toNatClampNeg)) rfl) pmX11_isIn (hZ.2.2.2.2.2.1 11 _ rfl) ⟨Nat.le_of_ble_eq_true rfl, Nat.le_of_ble_eq_true rfl⟩ rfl hl.1 (Nat.le_of_ble_eq_true rfl) ⟨Nat.le_refl _, Nat.le_refl _⟩ rfl dX2_unmarkedOf_40 (fun H locs hW hS hzz => ?_)
          refine lv_topi (fun b7 eb7 => ?_)
          replace h := nm_a eb7 h
          have hzb7 : b7 = 0 ∨ b7 = 1 := by rw [eb7]; exact hzz
          refine lv_if_eq (tgt := 54) hx hb dX2_unmarkedOf_43 (by decide) (fun c8 => ?_) (fun c8 => ?_)
          · replace h := sh_t c8 h
            obtain ⟨v9, ev9⟩ : ∃ y : Int32, y = i3 + (1 : Int32) := ⟨_, rfl⟩
            replace h := nm_a ev9 h
            refine lv_iinc (v := v9) (lv' := [(5, .int v9), (0, .ref (ad 2 0)), (1, .long x1), (3, .long j2)]) hx hb dX2_unmarkedOf_54 hl (k := 3) rfl (by rw [ev9]; rfl) (by decide) rfl (fun ls hl => ?_)
            refine lv_goto (tgt := 5) hx hb dX2_unmarkedOf_57 (by decide) ?_
            exact ih1 j2 v9 _ _ _ hW hS (lv_sub hl [1, 2, 3, 0] rfl) h
          · replace h := sh_f c8 h
            refine lv_lload_n hx hb dX2_unmarkedOf_46 rfl (lv_at hl 2 rfl) ?_
            refine lv_iload hx hb dX2_unmarkedOf_47 (lv_at hl 3 rfl) ?_
            refine tb_cNL hZk hx hb hml hown hts hK hZ hW hS [.int i3] (mX11_bit (l := l) hZk i3 M0 (fX11_bit i3) rfl) pmX11_bit (hZ.2.2.2.2.2.1 12 _ rfl) ⟨Nat.le_of_ble_eq_true rfl, Nat.le_of_ble_eq_true rfl⟩ rfl hl.1 (Nat.le_of_ble_eq_true rfl) ⟨Nat.le_refl _, Nat.le_refl _⟩ rfl dX2_unmarkedOf_49 (fun H locs hW hS => ?_)
            refine lv_lor hx hb dX2_unmarkedOf_52 ?_
            refine lv_topl (fun v10 ev10 => ?_)
            replace h := nm_a ev10 h
            refine lv_lstore_n (lv' := [(3, .long v10), (0, .ref (ad 2 0)), (1, .long x1), (5, .int i3)]) hx hb dX2_unmarkedOf_53 rfl hl (by decide) rfl (fun ls hl => ?_)
            obtain ⟨v11, ev11⟩ : ∃ y : Int32, y = i3 + (1 : Int32) := ⟨_, rfl⟩
            replace h := nm_a ev11 h
            refine lv_iinc (v := v11) (lv' := [(5, .int v11), (3, .long v10), (0, .ref (ad 2 0)), (1, .long x1)]) hx hb dX2_unmarkedOf_54 hl (k := 3) rfl (by rw [ev11]; rfl) (by decide) rfl (fun ls hl => ?_)
            refine lv_goto (tgt := 5) hx hb dX2_unmarkedOf_57 (by decide) ?_
            exact ih1 v10 v11 _ _ _ hW hS (lv_sub hl [2, 3, 1, 0] rfl) h
  exact L1 FU (0 : Int64) (0 : Int32) _ _ _ hW hS (lv_sub hl [2, 3, 1, 0] rfl) h
def fX2_reachOf_b5 (M0 : Mem) (x1 : Int64) (k1 : Int32 → Int32 → Option Int32) (i2 : Int32) (i3 : Int32) : Option Int32 :=
  if (mgI M0 201 0 0) ≤ i3 then (some i2) else (nm (fX11_isIn x1 i3) fun b5 => if b5 = 0 then (nm (i3 + (1 : Int32)) fun v7 => k1 i2 v7) else (ix i3 60 <| nm (i2 + (mgI M0 2700 0 i3.toNatClampNeg)) fun v8 => nm (i3 + (1 : Int32)) fun v9 => k1 v8 v9))
def fX2_reachOf_l5 (M0 : Mem) (x1 : Int64) : Nat → Int32 → Int32 → Option Int32
  | 0, _, _ => none
  | n + 1, i2, i3 => fX2_reachOf_b5 M0 x1 (fX2_reachOf_l5 M0 x1 n) i2 i3
def fX2_reachOf (x1 : Int64) (M0 : Mem) : Option Int32 :=
  fX2_reachOf_l5 M0 x1 FU (0 : Int32) (0 : Int32)
set_option maxHeartbeats 4000000 in
set_option maxRecDepth 100000 in
theorem mX2_reachOf {l : Launch} {D : va_G} {cy : Nat → ClassId} {A : Nat → Prop} {K : KC} {nS nL : Nat} {ad : Nat → Nat → Nat} (hZk : ZOK A (ZC A K)) (x1 : Int64) (M0 : Mem) (r : Int32) (h : fX2_reachOf x1 M0 = some r) : Met l yX2_reachOf (wt yX2_reachOf cX2_reachOf 5 (some .int)) (rm 1 22) (CPre D cy A (ZC A K) (cnC nS nL) ad M0 [.ref (ad 2 0), .long x1]) (QI D cy A (cnC nS nL) ad r M0) 0 0 A := by
  refine tb_start [.ref (ad 2 0), .long x1] [(0, .ref (ad 2 0)), (1, .long x1)] RX2 rfl (by decide +kernel) (Nat.le_of_ble_eq_true rfl) rfl (fun p e s m args below meth c hx hb hr hml hown hts hlk hW hK hZ ls hl => ?_)
  have hS : va_S A s.heap s.heap [] := va_S.rf
  unfold fX2_reachOf at h
  refine lv_iconst (v := (0 : Int32)) hx hb dX2_reachOf_0 (by decide) ?_
  refine lv_istore_n (lv' := [(3, .int (0 : Int32)), (0, .ref (ad 2 0)), (1, .long x1)]) hx hb dX2_reachOf_1 rfl hl (by decide) rfl (fun ls hl => ?_)
  refine lv_iconst (v := (0 : Int32)) hx hb dX2_reachOf_2 (by decide) ?_
  refine lv_istore (lv' := [(4, .int (0 : Int32)), (3, .int (0 : Int32)), (0, .ref (ad 2 0)), (1, .long x1)]) hx hb dX2_reachOf_3 hl (by decide) rfl (fun ls hl => ?_)
  have L1 : ∀ (n1 : Nat) (i2 : Int32) (i3 : Int32) (H : Heap) (locs : List Loc) (ls : Array Slot), Wd D cy A (cnC nS nL) ad M0 H → va_S A s.heap H locs → lv_has ls 5 [(0, .ref (ad 2 0)), (1, .long x1), (3, .int i2), (4, .int i3)] → fX2_reachOf_l5 M0 x1 n1 i2 i3 = some r → W p l e (rm 1 22) s m args below meth c H locs 0 0 (MQ below (QI D cy A (cnC nS nL) ad r M0) args s 0 0 A) (F0 m 5 ls []) := by
    intro n1
    induction n1 with
    | zero => intro i2 i3 H locs ls hW hS hl h; cases h
    | succ n1 ih1 =>
      intro i2 i3 H locs ls hW hS hl h
      unfold fX2_reachOf_l5 fX2_reachOf_b5 at h
      refine lv_iload hx hb dX2_reachOf_5 (lv_at hl 3 rfl) ?_
      refine lv_aload_n hx hb dX2_reachOf_7 rfl (lv_at hl 0 rfl) ?_
      refine gtX2_25 hx hb hts hown hK hW cz2 dX2_reachOf_8 ?_
      refine lv_icmp_ge (tgt := 39) hx hb dX2_reachOf_11 (by decide) (fun c4 => ?_) (fun c4 => ?_)
      · replace h := sh_t c4 h
        refine lv_iload_n hx hb dX2_reachOf_39 rfl (lv_at hl 2 rfl) ?_
        exact tb_iretO h hx hb hr hS hW hlk dX2_reachOf_40
      · replace h := sh_f c4 h
        refine lv_lload_n hx hb dX2_reachOf_14 rfl (lv_at hl 1 rfl) ?_
        refine lv_iload hx hb dX2_reachOf_15 (lv_at hl 3 rfl) ?_
        refine tb_cNZ hZk hx hb hml hown hts hK hZ hW hS [.long x1, .int i3] (mX11_isIn (l := l) hZk x1 i3 M0 (fX11_isIn x1 i3) rfl) pmX11_isIn (hZ.2.2.2.2.2.1 11 _ rfl) ⟨Nat.le_of_ble_eq_true rfl, Nat.le_of_ble_eq_true rfl⟩ rfl hl.1 (Nat.le_of_ble_eq_true rfl) ⟨Nat.le_refl _, Nat.le_refl _⟩ rfl dX2_reachOf_17 (fun H locs hW hS hzz => ?_)
        refine lv_topi (fun b5 eb5 => ?_)
        replace h := nm_a eb5 h
        have hzb5 : b5 = 0 ∨ b5 = 1 := by rw [eb5]; exact hzz
        refine lv_if_eq (tgt := 33) hx hb dX2_reachOf_20 (by decide) (fun c6 => ?_) (fun c6 => ?_)
        · replace h := sh_t c6 h
          obtain ⟨v7, ev7⟩ : ∃ y : Int32, y = i3 + (1 : Int32) := ⟨_, rfl⟩
          replace h := nm_a ev7 h
          refine lv_iinc (v := v7) (lv' := [(4, .int v7), (0, .ref (ad 2 0)), (1, .long x1), (3, .int i2)]) hx hb dX2_reachOf_33 hl (k := 3) rfl (by rw [ev7]; rfl) (by decide) rfl (fun ls hl => ?_)
          refine lv_goto (tgt := 5) hx hb dX2_reachOf_36 (by decide) ?_
          exact ih1 i2 v7 _ _ _ hW hS (lv_sub hl [1, 2, 3, 0] rfl) h
        · replace h := sh_f c6 h
          refine lv_iload_n hx hb dX2_reachOf_23 rfl (lv_at hl 2 rfl) ?_
          refine lv_aload_n hx hb dX2_reachOf_24 rfl (lv_at hl 0 rfl) ?_
          refine gtX2_18 hx hb hts hown hK hW cz2 dX2_reachOf_25 ?_
          refine lv_iload hx hb dX2_reachOf_28 (lv_at hl 3 rfl) ?_
          replace h := ix_a h
          obtain ⟨hj, h⟩ := h
          refine al27 hx hb hK hW cz27 hj dX2_reachOf_30 ?_
          refine lv_iadd hx hb dX2_reachOf_31 ?_
          refine lv_topi (fun v8 ev8 => ?_)
          replace h := nm_a ev8 h
          refine lv_istore_n (lv' := [(3, .int v8), (0, .ref (ad 2 0)), (1, .long x1), (4, .int i3)]) hx hb dX2_reachOf_32 rfl hl (by decide) rfl (fun ls hl => ?_)
          obtain ⟨v9, ev9⟩ : ∃ y : Int32, y = i3 + (1 : Int32) := ⟨_, rfl⟩
          replace h := nm_a ev9 h
          refine lv_iinc (v := v9) (lv' := [(4, .int v9), (3, .int v8), (0, .ref (ad 2 0)), (1, .long x1)]) hx hb dX2_reachOf_33 hl (k := 3) rfl (by rw [ev9]; rfl) (by decide) rfl (fun ls hl => ?_)
          refine lv_goto (tgt := 5) hx hb dX2_reachOf_36 (by decide) ?_
          exact ih1 v8 v9 _ _ _ hW hS (lv_sub hl [2, 3, 1, 0] rfl) h
  exact L1 FU (0 : Int32) (0 : Int32) _ _ _ hW hS (lv_sub hl [2, 3, 1, 0] rfl) h
def fX5_isStill (x1 : Option Nat) (M0 : Mem) : Option Int32 :=
  oc x1 none fun a1 => if (mgI M0 801 a1 0) = (5 : Int32) then (if (mgI M0 810 a1 0) = 0 then (if (lg_cmp ((mgL M0 815 a1 0) &&& (mgL M0 505 0 0)) (0 : Int64)) = 0 then (some (0 : Int32)) else (some (1 : Int32))) else (some (0 : Int32))) else (some (0 : Int32))
set_option maxHeartbeats 4000000 in
set_option maxRecDepth 100000 in
theorem mX5_isStill {l : Launch} {D : va_G} {cy : Nat → ClassId} {A : Nat → Prop} {K : KC} {nS nL : Nat} {ad : Nat → Nat → Nat} (hZk : ZOK A (ZC A K)) (x1 : Option Nat) (M0 : Mem) (hx1 : ∀ z, x1 = some z → z < (cnC nS nL) 8) (r : Int32) (h : fX5_isStill x1 M0 = some r) : Met l yX5_isStill (wt yX5_isStill cX5_isStill 2 (some .boolean)) (rm 0 0) (CPre D cy A (ZC A K) (cnC nS nL) ad M0 [.ref (ad 5 0), rv (ad 8) x1]) (QZ D cy A (cnC nS nL) ad r M0) 0 0 A := by
  refine tb_start [.ref (ad 5 0), rv (ad 8) x1] [(0, .ref (ad 5 0)), (1, rv (ad 8) x1)] RX5 rfl (by decide +kernel) (by simp [lg_sl, List.flatMap_cons, rv_cat, cat_r, cat_i, cat_l]) (by simp [lv_args, rv_cat, cat_r, cat_i, cat_l]) (fun p e s m args below meth c hx hb hr hml hown hts hlk hW hK hZ ls hl => ?_)
  have hS : va_S A s.heap s.heap [] := va_S.rf
  unfold fX5_isStill at h
  refine tb_aload_n hx hb dX5_isStill_0 rfl (lv_at hl 1 rfl) ?_
  replace h := oc_d h
  obtain ⟨a1, ea1, h⟩ := h
  subst ea1
  have la1 := hx1 _ rfl
  refine gtX5_40 hx hb hts hown hK hW la1 dX5_isStill_1 ?_
  refine lv_iconst (v := (5 : Int32)) hx hb dX5_isStill_4 (by decide) ?_
  refine lv_icmp_ne (tgt := 33) hx hb dX5_isStill_5 (by decide) (fun c2 => ?_) (fun c2 => ?_)
  · replace h := sh_f c2 h
    refine lv_iconst (v := (0 : Int32)) hx hb dX5_isStill_33 (by decide) ?_
    exact tb_zretO h hx hb hr hS hW hlk (by decide) dX5_isStill_34
  · replace h := sh_t c2 h
    refine lv_aload_n hx hb dX5_isStill_8 rfl (lv_at hl 1 rfl) ?_
    refine gtX5_92 hx hb hts hown hK hW la1 dX5_isStill_9 ?_
    refine lv_if_ne (tgt := 33) hx hb dX5_isStill_12 (by decide) (fun c3 => ?_) (fun c3 => ?_)
    · replace h := sh_f c3 h
      refine lv_iconst (v := (0 : Int32)) hx hb dX5_isStill_33 (by decide) ?_
      exact tb_zretO h hx hb hr hS hW hlk (by decide) dX5_isStill_34
    · replace h := sh_t c3 h
      refine lv_aload_n hx hb dX5_isStill_15 rfl (lv_at hl 1 rfl) ?_
      refine gtX5_76 hx hb hts hown hK hW la1 dX5_isStill_16 ?_
      refine lv_aload_n hx hb dX5_isStill_19 rfl (lv_at hl 0 rfl) ?_
      refine gtX5_95 hx hb hts hown hK hW cz5 dX5_isStill_20 ?_
      refine lv_land hx hb dX5_isStill_23 ?_
      refine lv_lconst (v := (0 : Int64)) hx hb dX5_isStill_24 (by decide) ?_
      refine W.lcmp hx hb dX5_isStill_25 ?_
      refine lv_if_eq (tgt := 33) hx hb dX5_isStill_26 (by decide) (fun c4 => ?_) (fun c4 => ?_)
      · replace h := sh_t c4 h
        refine lv_iconst (v := (0 : Int32)) hx hb dX5_isStill_33 (by decide) ?_
        exact tb_zretO h hx hb hr hS hW hlk (by decide) dX5_isStill_34
      · replace h := sh_f c4 h
        refine lv_iconst (v := (1 : Int32)) hx hb dX5_isStill_29 (by decide) ?_
        refine lv_goto (tgt := 34) hx hb dX5_isStill_30 (by decide) ?_
        exact tb_zretO h hx hb hr hS hW hlk (by decide) dX5_isStill_34
def fX3_draw (x1 : Int32) (x2 : Int32) (M0 : Mem) : Int32 :=
  nm (((((mgI M0 302 0 0) * (69069 : Int32)) + ((7919 : Int32) * x1)) + ((104729 : Int32) * (mgI M0 504 0 0))) + ((13 : Int32) * x2)) fun v1 => nm ((v1 ^^^ ((v1.toUInt32 >>> ((15 : Int32).toUInt32 &&& Int32.toUInt32 31)).toInt32)) * (1274126177 : Int32)) fun v2 => ((v2.toUInt32 >>> ((7 : Int32).toUInt32 &&& Int32.toUInt32 31)).toInt32) - ((v2.toUInt32 >>> ((7 : Int32).toUInt32 &&& Int32.toUInt32 31)).toInt32) / (1000 : Int32) * (1000 : Int32)
set_option maxHeartbeats 4000000 in
set_option maxRecDepth 100000 in
theorem mX3_draw {l : Launch} {D : va_G} {cy : Nat → ClassId} {A : Nat → Prop} {K : KC} {nS nL : Nat} {ad : Nat → Nat → Nat} (hZk : ZOK A (ZC A K)) (x1 : Int32) (x2 : Int32) (M0 : Mem) (r : Int32) (h : fX3_draw x1 x2 M0 = r) : Met l yX3_draw (wt yX3_draw cX3_draw 4 (some .int)) (rm 0 0) (CPre D cy A (ZC A K) (cnC nS nL) ad M0 [.ref (ad 3 0), .int x1, .int x2]) (QI D cy A (cnC nS nL) ad r M0) 0 0 A := by
  refine tb_start [.ref (ad 3 0), .int x1, .int x2] [(0, .ref (ad 3 0)), (1, .int x1), (2, .int x2)] RX3 rfl (by decide +kernel) (Nat.le_of_ble_eq_true rfl) rfl (fun p e s m args below meth c hx hb hr hml hown hts hlk hW hK hZ ls hl => ?_)
  have hS : va_S A s.heap s.heap [] := va_S.rf
  unfold fX3_draw at h
  refine lv_aload_n hx hb dX3_draw_0 rfl (lv_at hl 0 rfl) ?_
  refine gtX3_82 hx hb hts hown hK hW cz3 dX3_draw_1 ?_
  refine lv_ldc hx hb hown (hts _ tw794) dX3_draw_4 ?_
  refine lv_imul hx hb dX3_draw_6 ?_
  refine lv_sipush (v := (7919 : Int32)) hx hb dX3_draw_7 (by decide) ?_
  refine lv_iload_n hx hb dX3_draw_10 rfl (lv_at hl 1 rfl) ?_
  refine lv_imul hx hb dX3_draw_11 ?_
  refine lv_iadd hx hb dX3_draw_12 ?_
  refine lv_ldc hx hb hown (hts _ tw795) dX3_draw_13 ?_
  refine lv_aload_n hx hb dX3_draw_15 rfl (lv_at hl 0 rfl) ?_
  refine gtX3_45 hx hb hts hown hK hW cz3 dX3_draw_16 ?_
  refine gtX3_53 hx hb hts hown hK hW cz5 dX3_draw_19 ?_
  refine lv_imul hx hb dX3_draw_22 ?_
  refine lv_iadd hx hb dX3_draw_23 ?_
  refine lv_bipush (v := (13 : Int32)) hx hb dX3_draw_24 (by decide) ?_
  refine lv_iload_n hx hb dX3_draw_26 rfl (lv_at hl 2 rfl) ?_
  refine lv_imul hx hb dX3_draw_27 ?_
  refine lv_iadd hx hb dX3_draw_28 ?_
  refine lv_topi (fun v1 ev1 => ?_)
  replace h := nm_a ev1 h
  refine lv_istore_n (lv' := [(3, .int v1), (0, .ref (ad 3 0)), (1, .int x1), (2, .int x2)]) hx hb dX3_draw_29 rfl hl (by decide) rfl (fun ls hl => ?_)
  refine lv_iload_n hx hb dX3_draw_30 rfl (lv_at hl 0 rfl) ?_
  refine lv_iload_n hx hb dX3_draw_31 rfl (lv_at hl 0 rfl) ?_
  refine lv_bipush (v := (15 : Int32)) hx hb dX3_draw_32 (by decide) ?_
  refine lv_iushr hx hb dX3_draw_34 rfl ?_
  refine lv_ixor hx hb dX3_draw_35 ?_
  refine lv_ldc hx hb hown (hts _ tw796) dX3_draw_36 ?_
  refine lv_imul hx hb dX3_draw_38 ?_
  refine lv_topi (fun v2 ev2 => ?_)
  replace h := nm_a ev2 h
  refine lv_istore_n (lv' := [(3, .int v2), (0, .ref (ad 3 0)), (1, .int x1), (2, .int x2)]) hx hb dX3_draw_39 rfl hl (by decide) rfl (fun ls hl => ?_)
  refine lv_iload_n hx hb dX3_draw_40 rfl (lv_at hl 0 rfl) ?_
  refine lv_bipush (v := (7 : Int32)) hx hb dX3_draw_41 (by decide) ?_
  refine lv_iushr hx hb dX3_draw_43 rfl ?_
  refine lv_sipush (v := (1000 : Int32)) hx hb dX3_draw_44 (by decide) ?_
  refine lv_irem hx hb dX3_draw_47 (by decide) ?_
  exact tb_iretP h hx hb hr hS hW hlk dX3_draw_48
def fX3_monthsTaken_b5 (M0 : Mem) (x1 : Int64) (k1 : Int32 → Int32 → Option Int32) (i2 : Int32) (i3 : Int32) : Option Int32 :=
  if (mgI M0 502 0 0) ≤ i3 then (some i2) else (nm (fX11_isIn x1 i3) fun b5 => if b5 = 0 then (nm (i3 + (1 : Int32)) fun v7 => k1 i2 v7) else (ix i3 64 <| nm (mgR M0 3200 0 i3.toNatClampNeg) fun o8 => oc o8 none fun a9 => nm (if i2 < ((mgI M0 504 0 0) - (mgI M0 807 a9 0)) then ((mgI M0 504 0 0) - (mgI M0 807 a9 0)) else i2) fun v10 => nm (i3 + (1 : Int32)) fun v11 => k1 v10 v11))
def fX3_monthsTaken_l5 (M0 : Mem) (x1 : Int64) : Nat → Int32 → Int32 → Option Int32
  | 0, _, _ => none
  | n + 1, i2, i3 => fX3_monthsTaken_b5 M0 x1 (fX3_monthsTaken_l5 M0 x1 n) i2 i3
def fX3_monthsTaken (x1 : Int64) (M0 : Mem) : Option Int32 :=
  fX3_monthsTaken_l5 M0 x1 FU (0 : Int32) (0 : Int32)
set_option maxHeartbeats 4000000 in
set_option maxRecDepth 100000 in
theorem mX3_monthsTaken {l : Launch} {D : va_G} {cy : Nat → ClassId} {A : Nat → Prop} {K : KC} {nS nL : Nat} {ad : Nat → Nat → Nat} (hZk : ZOK A (ZC A K)) (x1 : Int64) (M0 : Mem) (r : Int32) (h : fX3_monthsTaken x1 M0 = some r) : Met l yX3_monthsTaken (wt yX3_monthsTaken cX3_monthsTaken 5 (some .int)) (rm 1 40) (CPre D cy A (ZC A K) (cnC nS nL) ad M0 [.ref (ad 3 0), .long x1]) (QI D cy A (cnC nS nL) ad r M0) 0 0 A := by
  refine tb_start [.ref (ad 3 0), .long x1] [(0, .ref (ad 3 0)), (1, .long x1)] RX3 rfl (by decide +kernel) (Nat.le_of_ble_eq_true rfl) rfl (fun p e s m args below meth c hx hb hr hml hown hts hlk hW hK hZ ls hl => ?_)
  have hS : va_S A s.heap s.heap [] := va_S.rf
  unfold fX3_monthsTaken at h
  refine lv_iconst (v := (0 : Int32)) hx hb dX3_monthsTaken_0 (by decide) ?_
  refine lv_istore_n (lv' := [(3, .int (0 : Int32)), (0, .ref (ad 3 0)), (1, .long x1)]) hx hb dX3_monthsTaken_1 rfl hl (by decide) rfl (fun ls hl => ?_)
  refine lv_iconst (v := (0 : Int32)) hx hb dX3_monthsTaken_2 (by decide) ?_
  refine lv_istore (lv' := [(4, .int (0 : Int32)), (3, .int (0 : Int32)), (0, .ref (ad 3 0)), (1, .long x1)]) hx hb dX3_monthsTaken_3 hl (by decide) rfl (fun ls hl => ?_)
  have L1 : ∀ (n1 : Nat) (i2 : Int32) (i3 : Int32) (H : Heap) (locs : List Loc) (ls : Array Slot), Wd D cy A (cnC nS nL) ad M0 H → va_S A s.heap H locs → lv_has ls 5 [(0, .ref (ad 3 0)), (1, .long x1), (3, .int i2), (4, .int i3)] → fX3_monthsTaken_l5 M0 x1 n1 i2 i3 = some r → W p l e (rm 1 40) s m args below meth c H locs 0 0 (MQ below (QI D cy A (cnC nS nL) ad r M0) args s 0 0 A) (F0 m 5 ls []) := by
    intro n1
    induction n1 with
    | zero => intro i2 i3 H locs ls hW hS hl h; cases h
    | succ n1 ih1 =>
      intro i2 i3 H locs ls hW hS hl h
      unfold fX3_monthsTaken_l5 fX3_monthsTaken_b5 at h
      refine lv_iload hx hb dX3_monthsTaken_5 (lv_at hl 3 rfl) ?_
      refine lv_aload_n hx hb dX3_monthsTaken_7 rfl (lv_at hl 0 rfl) ?_
      refine gtX3_45 hx hb hts hown hK hW cz3 dX3_monthsTaken_8 ?_
      refine gtX3_59 hx hb hts hown hK hW cz5 dX3_monthsTaken_11 ?_
      refine lv_icmp_ge (tgt := 58) hx hb dX3_monthsTaken_14 (by decide) (fun c4 => ?_) (fun c4 => ?_)
      · replace h := sh_t c4 h
        refine lv_iload_n hx hb dX3_monthsTaken_58 rfl (lv_at hl 2 rfl) ?_
        exact tb_iretO h hx hb hr hS hW hlk dX3_monthsTaken_59
      · replace h := sh_f c4 h
        refine lv_lload_n hx hb dX3_monthsTaken_17 rfl (lv_at hl 1 rfl) ?_
        refine lv_iload hx hb dX3_monthsTaken_18 (lv_at hl 3 rfl) ?_
        refine tb_cNZ hZk hx hb hml hown hts hK hZ hW hS [.long x1, .int i3] (mX11_isIn (l := l) hZk x1 i3 M0 (fX11_isIn x1 i3) rfl) pmX11_isIn (hZ.2.2.2.2.2.1 10 _ rfl) ⟨Nat.le_of_ble_eq_true rfl, Nat.le_of_ble_eq_true rfl⟩ rfl hl.1 (Nat.le_of_ble_eq_true rfl) ⟨Nat.le_refl _, Nat.le_refl _⟩ rfl dX3_monthsTaken_20 (fun H locs hW hS hzz => ?_)
        refine lv_topi (fun b5 eb5 => ?_)
        replace h := nm_a eb5 h
        have hzb5 : b5 = 0 ∨ b5 = 1 := by rw [eb5]; exact hzz
        refine lv_if_eq (tgt := 52) hx hb dX3_monthsTaken_23 (by decide) (fun c6 => ?_) (fun c6 => ?_)
        · replace h := sh_t c6 h
          obtain ⟨v7, ev7⟩ : ∃ y : Int32, y = i3 + (1 : Int32) := ⟨_, rfl⟩
          replace h := nm_a ev7 h
          refine lv_iinc (v := v7) (lv' := [(4, .int v7), (0, .ref (ad 3 0)), (1, .long x1), (3, .int i2)]) hx hb dX3_monthsTaken_52 hl (k := 3) rfl (by rw [ev7]; rfl) (by decide) rfl (fun ls hl => ?_)
          refine lv_goto (tgt := 5) hx hb dX3_monthsTaken_55 (by decide) ?_
          exact ih1 i2 v7 _ _ _ hW hS (lv_sub hl [1, 2, 3, 0] rfl) h
        · replace h := sh_f c6 h
          refine lv_iload_n hx hb dX3_monthsTaken_26 rfl (lv_at hl 2 rfl) ?_
          refine lv_aload_n hx hb dX3_monthsTaken_27 rfl (lv_at hl 0 rfl) ?_
          refine gtX3_45 hx hb hts hown hK hW cz3 dX3_monthsTaken_28 ?_
          refine gtX3_53 hx hb hts hown hK hW cz5 dX3_monthsTaken_31 ?_
          refine lv_aload_n hx hb dX3_monthsTaken_34 rfl (lv_at hl 0 rfl) ?_
          refine gtX3_45 hx hb hts hown hK hW cz3 dX3_monthsTaken_35 ?_
          refine gtX3_62 hx hb hts hown hK hW cz5 dX3_monthsTaken_38 ?_
          refine lv_iload hx hb dX3_monthsTaken_41 (lv_at hl 3 rfl) ?_
          replace h := ix_a h
          obtain ⟨hj, h⟩ := h
          refine al32 hx hb hK hW cz32 hj dX3_monthsTaken_43 (fun o8 eo8 ho8 => ?_)
          replace h := nm_a eo8 h
          replace h := oc_d h
          obtain ⟨a9, ea9, h⟩ := h
          subst ea9
          have la9 := ho8 _ rfl
          refine gtX3_171 hx hb hts hown hK hW la9 dX3_monthsTaken_44 ?_
          refine lv_isub hx hb dX3_monthsTaken_47 ?_
          refine va_mmax hx hb (hml.trans hl.1.symm) hown (hts _ tw805) (hts _ tw656) (hts _ tw91) (hts _ tw657) (Nat.le_of_ble_eq_true rfl) (by show _ ≤ _; exact Nat.le_of_ble_eq_true rfl) (Nat.le_refl _) (Nat.le_refl _) dX3_monthsTaken_48 ?_
          refine lv_topi (fun v10 ev10 => ?_)
          replace h := nm_a ev10 h
          refine lv_istore_n (lv' := [(3, .int v10), (0, .ref (ad 3 0)), (1, .long x1), (4, .int i3)]) hx hb dX3_monthsTaken_51 rfl hl (by decide) rfl (fun ls hl => ?_)
          obtain ⟨v11, ev11⟩ : ∃ y : Int32, y = i3 + (1 : Int32) := ⟨_, rfl⟩
          replace h := nm_a ev11 h
          refine lv_iinc (v := v11) (lv' := [(4, .int v11), (3, .int v10), (0, .ref (ad 3 0)), (1, .long x1)]) hx hb dX3_monthsTaken_52 hl (k := 3) rfl (by rw [ev11]; rfl) (by decide) rfl (fun ls hl => ?_)
          refine lv_goto (tgt := 5) hx hb dX3_monthsTaken_55 (by decide) ?_
          exact ih1 v10 v11 _ _ _ hW hS (lv_sub hl [2, 3, 1, 0] rfl) h
  exact L1 FU (0 : Int32) (0 : Int32) _ _ _ hW hS (lv_sub hl [2, 3, 1, 0] rfl) h
def fX3_know_b13 (M0 : Mem) (a1 : Nat) (k3 : Int32 → Int32 → Int32 → (Option Nat) → Option (Unit × Mem)) (i4 : Int32) (i5 : Int32) (i6 : Int32) (o7 : Option Nat) : Option (Unit × Mem) :=
  oc o7 (bd (fX3_monthsTaken ((mgL M0 815 a1 0) &&& (mgL M0 505 0 0)) M0) fun b9 => nm (msI M0 3000 0 ((0 : Int32).toNatClampNeg) b9) fun M10 => nm (msI M10 3000 0 ((1 : Int32).toNatClampNeg) i4) fun M11 => if i6 = 0 then (nm (msI M11 3000 0 ((2 : Int32).toNatClampNeg) (0 : Int32)) fun M23 => nm (msI M23 3000 0 ((3 : Int32).toNatClampNeg) i6) fun M24 => bd (fX2_unmarkedOf (mgL M24 815 a1 0) M24) fun g25 => nm (fJ13_bitCount_95d88 g25) fun v26 => nm (msI M24 3000 0 ((4 : Int32).toNatClampNeg) v26) fun M27 => nm (mgI M27 803 a1 0) fun v28 => nm (msI M27 3000 0 ((5 : Int32).toNatClampNeg) v28) fun M29 => if (mgI M29 811 a1 0) = 0 then (nm (msI M29 3000 0 ((6 : Int32).toNatClampNeg) (0 : Int32)) fun M31 => some ((), M31)) else (nm (msI M29 3000 0 ((6 : Int32).toNatClampNeg) (1 : Int32)) fun M32 => some ((), M32))) else (nm (msI M11 3000 0 ((2 : Int32).toNatClampNeg) i5) fun M13 => nm (msI M13 3000 0 ((3 : Int32).toNatClampNeg) i6) fun M14 => bd (fX2_unmarkedOf (mgL M14 815 a1 0) M14) fun g15 => nm (fJ13_bitCount_95d88 g15) fun v16 => nm (msI M14 3000 0 ((4 : Int32).toNatClampNeg) v16) fun M17 => nm (mgI M17 803 a1 0) fun v18 => nm (msI M17 3000 0 ((5 : Int32).toNatClampNeg) v18) fun M19 => if (mgI M19 811 a1 0) = 0 then (nm (msI M19 3000 0 ((6 : Int32).toNatClampNeg) (0 : Int32)) fun M21 => some ((), M21)) else (nm (msI M19 3000 0 ((6 : Int32).toNatClampNeg) (1 : Int32)) fun M22 => some ((), M22)))) fun a8 => if (mgI M0 405 a8 0) = 0 then (nm (if i4 < (mgI M0 403 a8 0) then (mgI M0 403 a8 0) else i4) fun v35 => nm (if (mgI M0 404 a8 0) < i5 then (mgI M0 404 a8 0) else i5) fun v36 => nm (i6 + (1 : Int32)) fun v37 => nm (mgR M0 402 a8 0) fun o38 => k3 v35 v36 v37 o38) else (nm (mgR M0 402 a8 0) fun o34 => k3 i4 i5 i6 o34)
def fX3_know_l13 (M0 : Mem) (a1 : Nat) : Nat → Int32 → Int32 → Int32 → (Option Nat) → Option (Unit × Mem)
  | 0, _, _, _, _ => none
  | n + 1, i4, i5, i6, o7 => fX3_know_b13 M0 a1 (fX3_know_l13 M0 a1 n) i4 i5 i6 o7
def fX3_know (x1 : Option Nat) (M0 : Mem) : Option (Unit × Mem) :=
  oc x1 none fun a1 => nm (mgR M0 813 a1 0) fun o2 => fX3_know_l13 M0 a1 FU (0 : Int32) (2 : Int32) (0 : Int32) o2
set_option maxHeartbeats 4000000 in
set_option maxRecDepth 100000 in
theorem mX3_know {l : Launch} {D : va_G} {cy : Nat → ClassId} {A : Nat → Prop} {K : KC} {nS nL : Nat} {ad : Nat → Nat → Nat} (hZk : ZOK A (ZC A K)) (x1 : Option Nat) (M0 : Mem) (hx1 : ∀ z, x1 = some z → z < (cnC nS nL) 8) (r : Unit) (M' : Mem) (h : fX3_know x1 M0 = some (r, M')) : Met l yX3_know (wt yX3_know cX3_know 6 none) (rm 2 64) (CPre D cy A (ZC A K) (cnC nS nL) ad M0 [.ref (ad 3 0), rv (ad 8) x1]) (QV D cy A (cnC nS nL) ad r M') 0 0 A := by
  refine tb_start [.ref (ad 3 0), rv (ad 8) x1] [(0, .ref (ad 3 0)), (1, rv (ad 8) x1)] RX3 rfl (by decide +kernel) (by simp [lg_sl, List.flatMap_cons, rv_cat, cat_r, cat_i, cat_l]) (by simp [lv_args, rv_cat, cat_r, cat_i, cat_l]) (fun p e s m args below meth c hx hb hr hml hown hts hlk hW hK hZ ls hl => ?_)
  have hS : va_S A s.heap s.heap [] := va_S.rf
  unfold fX3_know at h
  refine lv_iconst (v := (0 : Int32)) hx hb dX3_know_0 (by decide) ?_
  refine lv_istore_n (lv' := [(2, .int (0 : Int32)), (0, .ref (ad 3 0)), (1, rv (ad 8) x1)]) hx hb dX3_know_1 rfl hl (by decide) (by simp [List.filter, rv_cat]) (fun ls hl => ?_)
  refine lv_iconst (v := (2 : Int32)) hx hb dX3_know_2 (by decide) ?_
  refine lv_istore_n (lv' := [(3, .int (2 : Int32)), (2, .int (0 : Int32)), (0, .ref (ad 3 0)), (1, rv (ad 8) x1)]) hx hb dX3_know_3 rfl hl (by decide) rfl (fun ls hl => ?_)
  refine lv_iconst (v := (0 : Int32)) hx hb dX3_know_4 (by decide) ?_
  refine lv_istore (lv' := [(4, .int (0 : Int32)), (3, .int (2 : Int32)), (2, .int (0 : Int32)), (0, .ref (ad 3 0)), (1, rv (ad 8) x1)]) hx hb dX3_know_5 hl (by decide) rfl (fun ls hl => ?_)
  refine tb_aload_n hx hb dX3_know_7 rfl (lv_at hl 4 rfl) ?_
  replace h := oc_d h
  obtain ⟨a1, ea1, h⟩ := h
  subst ea1
  have la1 := hx1 _ rfl
  refine gtX3_96 hx hb hts hown hK hW la1 dX3_know_8 ?_
  refine tb_topr (fun o2 eo2 => ?_)
  replace h := nm_a eo2 h
  have ho2 : ∀ z, o2 = some z → z < (cnC nS nL) 4 := fun z hz => hW.ref 1 rfl (eo2.symm.trans hz)
  refine tb_astore (lv' := [(5, rv (ad 4) o2), (4, .int (0 : Int32)), (3, .int (2 : Int32)), (2, .int (0 : Int32)), (0, .ref (ad 3 0)), (1, .ref (ad 8 a1))]) hx hb dX3_know_11 hl (by decide) rfl (fun ls hl => ?_)
  have L3 : ∀ (n3 : Nat) (i4 : Int32) (i5 : Int32) (i6 : Int32) (o7 : Option Nat) (H : Heap) (locs : List Loc) (ls : Array Slot), Wd D cy A (cnC nS nL) ad M0 H → va_S A s.heap H locs → lv_has ls 6 [(0, .ref (ad 3 0)), (1, .ref (ad 8 a1)), (2, .int i4), (3, .int i5), (4, .int i6), (5, rv (ad 4) o7)] → (∀ z, o7 = some z → z < (cnC nS nL) 4) → fX3_know_l13 M0 a1 n3 i4 i5 i6 o7 = some (r, M') → W p l e (rm 2 64) s m args below meth c H locs 0 0 (MQ below (QV D cy A (cnC nS nL) ad r M') args s 0 0 A) (F0 m 13 ls []) := by
    intro n3
    induction n3 with
    | zero => intro i4 i5 i6 o7 H locs ls hW hS hl ho7 h; cases h
    | succ n3 ih3 =>
      intro i4 i5 i6 o7 H locs ls hW hS hl ho7 h
      unfold fX3_know_l13 fX3_know_b13 at h
      refine tb_aload hx hb dX3_know_13 (lv_at hl 5 rfl) ?_
      refine tb_ifnull (tgt := 59) hx hb dX3_know_15 (by decide) (fun e0 => ?_) (fun a8 ea8 => ?_)
      · replace h := oc_n e0 h
        subst e0
        refine lv_aload_n hx hb dX3_know_59 rfl (lv_at hl 0 rfl) ?_
        refine gtX3_39 hx hb hts hown hK hW cz3 dX3_know_60 ?_
        refine lv_iconst (v := (0 : Int32)) hx hb dX3_know_63 (by decide) ?_
        refine lv_aload_n hx hb dX3_know_64 rfl (lv_at hl 0 rfl) ?_
        refine lv_aload_n hx hb dX3_know_65 rfl (lv_at hl 1 rfl) ?_
        refine gtX3_147 hx hb hts hown hK hW la1 dX3_know_66 ?_
        refine lv_aload_n hx hb dX3_know_69 rfl (lv_at hl 0 rfl) ?_
        refine gtX3_45 hx hb hts hown hK hW cz3 dX3_know_70 ?_
        refine gtX3_106 hx hb hts hown hK hW cz5 dX3_know_73 ?_
        refine lv_land hx hb dX3_know_76 ?_
        replace h := bd_a h
        obtain ⟨b9, hcb9, h⟩ := h
        refine tb_cVI hZk hx hb hml hown hts hK hZ hW hS [.long ((mgL M0 815 a1 0) &&& (mgL M0 505 0 0))] (mX3_monthsTaken (l := l) hZk ((mgL M0 815 a1 0) &&& (mgL M0 505 0 0)) M0 b9 hcb9) pmX3_monthsTaken tw809 (Wd.recv hK hW (t := 3) (by decide) cz3 (C := RX3) (T := TX3) (N := 10) rfl) ⟨Nat.le_of_ble_eq_true rfl, Nat.le_of_ble_eq_true rfl⟩ rfl hl.1 (Nat.le_of_ble_eq_true rfl) ⟨Nat.le_refl _, Nat.le_refl _⟩ rfl dX3_know_77 (fun H locs hW hS => ?_)
        refine as30 hx hb hK hW hS cz30 (vp_in_iff.mpr (by decide)) dX3_know_80 (fun H locs hW hS => ?_)
        obtain ⟨M10, eM10⟩ : ∃ y, y = msI M0 3000 0 ((0 : Int32).toNatClampNeg) b9 := ⟨_, rfl⟩
        replace h := nm_a eM10 h
        rw [← eM10] at hW
        refine lv_aload_n hx hb dX3_know_81 rfl (lv_at hl 0 rfl) ?_
        refine gtX3_39 hx hb hts hown hK hW cz3 dX3_know_82 ?_
        refine lv_iconst (v := (1 : Int32)) hx hb dX3_know_85 (by decide) ?_
        refine lv_iload_n hx hb dX3_know_86 rfl (lv_at hl 2 rfl) ?_
        refine as30 hx hb hK hW hS cz30 (vp_in_iff.mpr (by decide)) dX3_know_87 (fun H locs hW hS => ?_)
        obtain ⟨M11, eM11⟩ : ∃ y, y = msI M10 3000 0 ((1 : Int32).toNatClampNeg) i4 := ⟨_, rfl⟩
        replace h := nm_a eM11 h
        rw [← eM11] at hW
        refine lv_aload_n hx hb dX3_know_88 rfl (lv_at hl 0 rfl) ?_
        refine gtX3_39 hx hb hts hown hK hW cz3 dX3_know_89 ?_
        refine lv_iconst (v := (2 : Int32)) hx hb dX3_know_92 (by decide) ?_
        refine lv_iload hx hb dX3_know_93 (lv_at hl 4 rfl) ?_
        refine lv_if_ne (tgt := 102) hx hb dX3_know_95 (by decide) (fun c12 => ?_) (fun c12 => ?_)
        · replace h := sh_f c12 h
          refine lv_iload_n hx hb dX3_know_102 rfl (lv_at hl 3 rfl) ?_
          refine as30 hx hb hK hW hS cz30 (vp_in_iff.mpr (by decide)) dX3_know_103 (fun H locs hW hS => ?_)
          obtain ⟨M13, eM13⟩ : ∃ y, y = msI M11 3000 0 ((2 : Int32).toNatClampNeg) i5 := ⟨_, rfl⟩
          replace h := nm_a eM13 h
          rw [← eM13] at hW
          refine lv_aload_n hx hb dX3_know_104 rfl (lv_at hl 0 rfl) ?_
          refine gtX3_39 hx hb hts hown hK hW cz3 dX3_know_105 ?_
          refine lv_iconst (v := (3 : Int32)) hx hb dX3_know_108 (by decide) ?_
          refine lv_iload hx hb dX3_know_109 (lv_at hl 4 rfl) ?_
          refine as30 hx hb hK hW hS cz30 (vp_in_iff.mpr (by decide)) dX3_know_111 (fun H locs hW hS => ?_)
          obtain ⟨M14, eM14⟩ : ∃ y, y = msI M13 3000 0 ((3 : Int32).toNatClampNeg) i6 := ⟨_, rfl⟩
          replace h := nm_a eM14 h
          rw [← eM14] at hW
          refine lv_aload_n hx hb dX3_know_112 rfl (lv_at hl 0 rfl) ?_
          refine gtX3_39 hx hb hts hown hK hW cz3 dX3_know_113 ?_
          refine lv_iconst (v := (4 : Int32)) hx hb dX3_know_116 (by decide) ?_
          refine lv_aload_n hx hb dX3_know_117 rfl (lv_at hl 0 rfl) ?_
          refine gtX3_49 hx hb hts hown hK hW cz3 dX3_know_118 ?_
          refine lv_aload_n hx hb dX3_know_121 rfl (lv_at hl 1 rfl) ?_
          refine gtX3_147 hx hb hts hown hK hW la1 dX3_know_122 ?_
          replace h := bd_a h
          obtain ⟨g15, hcg15, h⟩ := h
          refine tb_cVL hZk hx hb hml hown hts hK hZ hW hS [.long (mgL M14 815 a1 0)] (mX2_unmarkedOf (l := l) hZk (mgL M14 815 a1 0) M14 g15 hcg15) pmX2_unmarkedOf tw814 (Wd.recv hK hW (t := 2) (by decide) cz2 (C := RX2) (T := TX2) (N := 5) rfl) ⟨Nat.le_of_ble_eq_true rfl, Nat.le_of_ble_eq_true rfl⟩ rfl hl.1 (Nat.le_of_ble_eq_true rfl) ⟨Nat.le_refl _, Nat.le_refl _⟩ rfl dX3_know_125 (fun H locs hW hS => ?_)
          refine tb_cSI hZk hx hb hml hown hts hK hZ hW hS [.long g15] (mJ13_bitCount_95d88 (l := l) hZk g15 M14 (fJ13_bitCount_95d88 g15) rfl) pmJ13_bitCount_95d88 tw820 ⟨Nat.le_of_ble_eq_true rfl, Nat.le_of_ble_eq_true rfl⟩ rfl hl.1 (Nat.le_of_ble_eq_true rfl) ⟨Nat.le_refl _, Nat.le_refl _⟩ rfl dX3_know_128 (fun H locs hW hS => ?_)
          refine lv_topi (fun v16 ev16 => ?_)
          replace h := nm_a ev16 h
          refine as30 hx hb hK hW hS cz30 (vp_in_iff.mpr (by decide)) dX3_know_131 (fun H locs hW hS => ?_)
          obtain ⟨M17, eM17⟩ : ∃ y, y = msI M14 3000 0 ((4 : Int32).toNatClampNeg) v16 := ⟨_, rfl⟩
          replace h := nm_a eM17 h
          rw [← eM17] at hW
          refine lv_aload_n hx hb dX3_know_132 rfl (lv_at hl 0 rfl) ?_
          refine gtX3_39 hx hb hts hown hK hW cz3 dX3_know_133 ?_
          refine lv_iconst (v := (5 : Int32)) hx hb dX3_know_136 (by decide) ?_
          refine lv_aload_n hx hb dX3_know_137 rfl (lv_at hl 1 rfl) ?_
          refine gtX3_165 hx hb hts hown hK hW la1 dX3_know_138 ?_
          refine lv_topi (fun v18 ev18 => ?_)
          replace h := nm_a ev18 h
          refine as30 hx hb hK hW hS cz30 (vp_in_iff.mpr (by decide)) dX3_know_141 (fun H locs hW hS => ?_)
          obtain ⟨M19, eM19⟩ : ∃ y, y = msI M17 3000 0 ((5 : Int32).toNatClampNeg) v18 := ⟨_, rfl⟩
          replace h := nm_a eM19 h
          rw [← eM19] at hW
          refine lv_aload_n hx hb dX3_know_142 rfl (lv_at hl 0 rfl) ?_
          refine gtX3_39 hx hb hts hown hK hW cz3 dX3_know_143 ?_
          refine lv_bipush (v := (6 : Int32)) hx hb dX3_know_146 (by decide) ?_
          refine lv_aload_n hx hb dX3_know_148 rfl (lv_at hl 1 rfl) ?_
          refine gtX3_168 hx hb hts hown hK hW la1 dX3_know_149 ?_
          refine lv_if_eq (tgt := 159) hx hb dX3_know_152 (by decide) (fun c20 => ?_) (fun c20 => ?_)
          · replace h := sh_t c20 h
            refine lv_iconst (v := (0 : Int32)) hx hb dX3_know_159 (by decide) ?_
            refine as30 hx hb hK hW hS cz30 (vp_in_iff.mpr (by decide)) dX3_know_160 (fun H locs hW hS => ?_)
            obtain ⟨M21, eM21⟩ : ∃ y, y = msI M19 3000 0 ((6 : Int32).toNatClampNeg) (0 : Int32) := ⟨_, rfl⟩
            replace h := nm_a eM21 h
            rw [← eM21] at hW
            exact tb_vretE h hx hb hr hS hW hlk dX3_know_161
          · replace h := sh_f c20 h
            refine lv_iconst (v := (1 : Int32)) hx hb dX3_know_155 (by decide) ?_
            refine lv_goto (tgt := 160) hx hb dX3_know_156 (by decide) ?_
            refine as30 hx hb hK hW hS cz30 (vp_in_iff.mpr (by decide)) dX3_know_160 (fun H locs hW hS => ?_)
            obtain ⟨M22, eM22⟩ : ∃ y, y = msI M19 3000 0 ((6 : Int32).toNatClampNeg) (1 : Int32) := ⟨_, rfl⟩
            replace h := nm_a eM22 h
            rw [← eM22] at hW
            exact tb_vretE h hx hb hr hS hW hlk dX3_know_161
        · replace h := sh_t c12 h
          refine lv_iconst (v := (0 : Int32)) hx hb dX3_know_98 (by decide) ?_
          refine lv_goto (tgt := 103) hx hb dX3_know_99 (by decide) ?_
          refine as30 hx hb hK hW hS cz30 (vp_in_iff.mpr (by decide)) dX3_know_103 (fun H locs hW hS => ?_)
          obtain ⟨M23, eM23⟩ : ∃ y, y = msI M11 3000 0 ((2 : Int32).toNatClampNeg) (0 : Int32) := ⟨_, rfl⟩
          replace h := nm_a eM23 h
          rw [← eM23] at hW
          refine lv_aload_n hx hb dX3_know_104 rfl (lv_at hl 0 rfl) ?_
          refine gtX3_39 hx hb hts hown hK hW cz3 dX3_know_105 ?_
          refine lv_iconst (v := (3 : Int32)) hx hb dX3_know_108 (by decide) ?_
          refine lv_iload hx hb dX3_know_109 (lv_at hl 4 rfl) ?_
          refine as30 hx hb hK hW hS cz30 (vp_in_iff.mpr (by decide)) dX3_know_111 (fun H locs hW hS => ?_)
          obtain ⟨M24, eM24⟩ : ∃ y, y = msI M23 3000 0 ((3 : Int32).toNatClampNeg) i6 := ⟨_, rfl⟩
          replace h := nm_a eM24 h
          rw [← eM24] at hW
          refine lv_aload_n hx hb dX3_know_112 rfl (lv_at hl 0 rfl) ?_
          refine gtX3_39 hx hb hts hown hK hW cz3 dX3_know_113 ?_
          refine lv_iconst (v := (4 : Int32)) hx hb dX3_know_116 (by decide) ?_
          refine lv_aload_n hx hb dX3_know_117 rfl (lv_at hl 0 rfl) ?_
          refine gtX3_49 hx hb hts hown hK hW cz3 dX3_know_118 ?_
          refine lv_aload_n hx hb dX3_know_121 rfl (lv_at hl 1 rfl) ?_
          refine gtX3_147 hx hb hts hown hK hW la1 dX3_know_122 ?_
          replace h := bd_a h
          obtain ⟨g25, hcg25, h⟩ := h
          refine tb_cVL hZk hx hb hml hown hts hK hZ hW hS [.long (mgL M24 815 a1 0)] (mX2_unmarkedOf (l := l) hZk (mgL M24 815 a1 0) M24 g25 hcg25) pmX2_unmarkedOf tw814 (Wd.recv hK hW (t := 2) (by decide) cz2 (C := RX2) (T := TX2) (N := 5) rfl) ⟨Nat.le_of_ble_eq_true rfl, Nat.le_of_ble_eq_true rfl⟩ rfl hl.1 (Nat.le_of_ble_eq_true rfl) ⟨Nat.le_refl _, Nat.le_refl _⟩ rfl dX3_know_125 (fun H locs hW hS => ?_)
          refine tb_cSI hZk hx hb hml hown hts hK hZ hW hS [.long g25] (mJ13_bitCount_95d88 (l := l) hZk g25 M24 (fJ13_bitCount_95d88 g25) rfl) pmJ13_bitCount_95d88 tw820 ⟨Nat.le_of_ble_eq_true rfl, Nat.le_of_ble_eq_true rfl⟩ rfl hl.1 (Nat.le_of_ble_eq_true rfl) ⟨Nat.le_refl _, Nat.le_refl _⟩ rfl dX3_know_128 (fun H locs hW hS => ?_)
          refine lv_topi (fun v26 ev26 => ?_)
          replace h := nm_a ev26 h
          refine as30 hx hb hK hW hS cz30 (vp_in_iff.mpr (by decide)) dX3_know_131 (fun H locs hW hS => ?_)
          obtain ⟨M27, eM27⟩ : ∃ y, y = msI M24 3000 0 ((4 : Int32).toNatClampNeg) v26 := ⟨_, rfl⟩
          replace h := nm_a eM27 h
          rw [← eM27] at hW
          refine lv_aload_n hx hb dX3_know_132 rfl (lv_at hl 0 rfl) ?_
          refine gtX3_39 hx hb hts hown hK hW cz3 dX3_know_133 ?_
          refine lv_iconst (v := (5 : Int32)) hx hb dX3_know_136 (by decide) ?_
          refine lv_aload_n hx hb dX3_know_137 rfl (lv_at hl 1 rfl) ?_
          refine gtX3_165 hx hb hts hown hK hW la1 dX3_know_138 ?_
          refine lv_topi (fun v28 ev28 => ?_)
          replace h := nm_a ev28 h
          refine as30 hx hb hK hW hS cz30 (vp_in_iff.mpr (by decide)) dX3_know_141 (fun H locs hW hS => ?_)
          obtain ⟨M29, eM29⟩ : ∃ y, y = msI M27 3000 0 ((5 : Int32).toNatClampNeg) v28 := ⟨_, rfl⟩
          replace h := nm_a eM29 h
          rw [← eM29] at hW
          refine lv_aload_n hx hb dX3_know_142 rfl (lv_at hl 0 rfl) ?_
          refine gtX3_39 hx hb hts hown hK hW cz3 dX3_know_143 ?_
          refine lv_bipush (v := (6 : Int32)) hx hb dX3_know_146 (by decide) ?_
          refine lv_aload_n hx hb dX3_know_148 rfl (lv_at hl 1 rfl) ?_
          refine gtX3_168 hx hb hts hown hK hW la1 dX3_know_149 ?_
          refine lv_if_eq (tgt := 159) hx hb dX3_know_152 (by decide) (fun c30 => ?_) (fun c30 => ?_)
          · replace h := sh_t c30 h
            refine lv_iconst (v := (0 : Int32)) hx hb dX3_know_159 (by decide) ?_
            refine as30 hx hb hK hW hS cz30 (vp_in_iff.mpr (by decide)) dX3_know_160 (fun H locs hW hS => ?_)
            obtain ⟨M31, eM31⟩ : ∃ y, y = msI M29 3000 0 ((6 : Int32).toNatClampNeg) (0 : Int32) := ⟨_, rfl⟩
            replace h := nm_a eM31 h
            rw [← eM31] at hW
            exact tb_vretE h hx hb hr hS hW hlk dX3_know_161
          · replace h := sh_f c30 h
            refine lv_iconst (v := (1 : Int32)) hx hb dX3_know_155 (by decide) ?_
            refine lv_goto (tgt := 160) hx hb dX3_know_156 (by decide) ?_
            refine as30 hx hb hK hW hS cz30 (vp_in_iff.mpr (by decide)) dX3_know_160 (fun H locs hW hS => ?_)
            obtain ⟨M32, eM32⟩ : ∃ y, y = msI M29 3000 0 ((6 : Int32).toNatClampNeg) (1 : Int32) := ⟨_, rfl⟩
            replace h := nm_a eM32 h
            rw [← eM32] at hW
            exact tb_vretE h hx hb hr hS hW hlk dX3_know_161
      · replace h := oc_s ea8 h
        subst ea8
        have la8 := ho7 _ rfl
        refine lv_aload hx hb dX3_know_18 (lv_at hl 5 rfl) ?_
        refine gtX3_100 hx hb hts hown hK hW la8 dX3_know_20 ?_
        refine lv_if_ne (tgt := 49) hx hb dX3_know_23 (by decide) (fun c33 => ?_) (fun c33 => ?_)
        · replace h := sh_f c33 h
          refine lv_aload hx hb dX3_know_49 (lv_at hl 5 rfl) ?_
          refine gtX3_120 hx hb hts hown hK hW la8 dX3_know_51 ?_
          refine tb_topr (fun o34 eo34 => ?_)
          replace h := nm_a eo34 h
          have ho34 : ∀ z, o34 = some z → z < (cnC nS nL) 4 := fun z hz => hW.ref 0 rfl (eo34.symm.trans hz)
          refine tb_astore (lv' := [(5, rv (ad 4) o34), (0, .ref (ad 3 0)), (1, .ref (ad 8 a1)), (2, .int i4), (3, .int i5), (4, .int i6)]) hx hb dX3_know_54 hl (by decide) rfl (fun ls hl => ?_)
          refine lv_goto (tgt := 13) hx hb dX3_know_56 (by decide) ?_
          exact ih3 i4 i5 i6 o34 _ _ _ hW hS (lv_sub hl [1, 2, 3, 4, 5, 0] rfl) ho34 h
        · replace h := sh_t c33 h
          refine lv_iload_n hx hb dX3_know_26 rfl (lv_at hl 2 rfl) ?_
          refine lv_aload hx hb dX3_know_27 (lv_at hl 5 rfl) ?_
          refine gtX3_117 hx hb hts hown hK hW la8 dX3_know_29 ?_
          refine va_mmax hx hb (hml.trans hl.1.symm) hown (hts _ tw805) (hts _ tw656) (hts _ tw91) (hts _ tw657) (Nat.le_of_ble_eq_true rfl) (by show _ ≤ _; exact Nat.le_of_ble_eq_true rfl) (Nat.le_refl _) (Nat.le_refl _) dX3_know_32 ?_
          refine lv_topi (fun v35 ev35 => ?_)
          replace h := nm_a ev35 h
          refine lv_istore_n (lv' := [(2, .int v35), (0, .ref (ad 3 0)), (1, .ref (ad 8 a1)), (3, .int i5), (4, .int i6), (5, .ref (ad 4 a8))]) hx hb dX3_know_35 rfl hl (by decide) rfl (fun ls hl => ?_)
          refine lv_iload_n hx hb dX3_know_36 rfl (lv_at hl 3 rfl) ?_
          refine lv_aload hx hb dX3_know_37 (lv_at hl 5 rfl) ?_
          refine gtX3_144 hx hb hts hown hK hW la8 dX3_know_39 ?_
          refine va_mmin hx hb (hml.trans hl.1.symm) hown (hts _ tw806) (hts _ tw807) (hts _ tw91) (hts _ tw808) (Nat.le_of_ble_eq_true rfl) (by show _ ≤ _; exact Nat.le_of_ble_eq_true rfl) (Nat.le_refl _) (Nat.le_refl _) dX3_know_42 ?_
          refine lv_topi (fun v36 ev36 => ?_)
          replace h := nm_a ev36 h
          refine lv_istore_n (lv' := [(3, .int v36), (2, .int v35), (0, .ref (ad 3 0)), (1, .ref (ad 8 a1)), (4, .int i6), (5, .ref (ad 4 a8))]) hx hb dX3_know_45 rfl hl (by decide) rfl (fun ls hl => ?_)
          obtain ⟨v37, ev37⟩ : ∃ y : Int32, y = i6 + (1 : Int32) := ⟨_, rfl⟩
          replace h := nm_a ev37 h
          refine lv_iinc (v := v37) (lv' := [(4, .int v37), (3, .int v36), (2, .int v35), (0, .ref (ad 3 0)), (1, .ref (ad 8 a1)), (5, .ref (ad 4 a8))]) hx hb dX3_know_46 hl (k := 4) rfl (by rw [ev37]; rfl) (by decide) rfl (fun ls hl => ?_)
          refine lv_aload hx hb dX3_know_49 (lv_at hl 5 rfl) ?_
          refine gtX3_120 hx hb hts hown hK hW la8 dX3_know_51 ?_
          refine tb_topr (fun o38 eo38 => ?_)
          replace h := nm_a eo38 h
          have ho38 : ∀ z, o38 = some z → z < (cnC nS nL) 4 := fun z hz => hW.ref 0 rfl (eo38.symm.trans hz)
          refine tb_astore (lv' := [(5, rv (ad 4) o38), (4, .int v37), (3, .int v36), (2, .int v35), (0, .ref (ad 3 0)), (1, .ref (ad 8 a1))]) hx hb dX3_know_54 hl (by decide) rfl (fun ls hl => ?_)
          refine lv_goto (tgt := 13) hx hb dX3_know_56 (by decide) ?_
          exact ih3 v35 v36 v37 o38 _ _ _ hW hS (lv_sub hl [4, 5, 3, 2, 1, 0] rfl) ho38 h
  exact L3 FU (0 : Int32) (2 : Int32) (0 : Int32) o2 _ _ _ hW hS (lv_sub hl [4, 5, 3, 2, 1, 0] rfl) ho2 h
