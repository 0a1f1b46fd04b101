def fX5_namesBeside_b4 (M0 : Mem) (x1 : Int32) (k1 : Int32 → Int32 → Option Int32) (i2 : Int32) (i3 : Int32) : Option Int32 :=
  if (mgI M0 502 0 0) ≤ i3 then (some i2) else (ix i3 64 <| nm (mgR M0 3200 0 i3.toNatClampNeg) fun o5 => oc o5 none fun a6 => if ((((mgI M0 806 a6 0).toUInt32 >>> (x1.toUInt32 &&& Int32.toUInt32 31)).toInt32) &&& (1 : Int32)) = 0 then (nm (i3 + (1 : Int32)) fun v8 => k1 i2 v8) else (ix i3 64 <| nm (mgR M0 3200 0 i3.toNatClampNeg) fun o9 => oc o9 none fun a10 => nm (i2 ||| (mgI M0 806 a10 0)) fun v11 => nm (i3 + (1 : Int32)) fun v12 => k1 v11 v12))
def fX5_namesBeside_l4 (M0 : Mem) (x1 : Int32) : Nat → Int32 → Int32 → Option Int32
  | 0, _, _ => none
  | n + 1, i2, i3 => fX5_namesBeside_b4 M0 x1 (fX5_namesBeside_l4 M0 x1 n) i2 i3
def fX5_namesBeside (x1 : Int32) (M0 : Mem) : Option Int32 :=
  fX5_namesBeside_l4 M0 x1 FU (0 : Int32) (0 : Int32)
set_option maxHeartbeats 4000000 in
set_option maxRecDepth 100000 in
theorem mX5_namesBeside {l : Launch} {D : va_G} {cy : Nat → ClassId} {A : Nat → Prop} {K : KC} {nS nL : Nat} {ad : Nat → Nat → Nat} (hZk : ZOK A (ZC A K)) (x1 : Int32) (M0 : Mem) (r : Int32) (h : fX5_namesBeside x1 M0 = some r) : Met l yX5_namesBeside (wt yX5_namesBeside cX5_namesBeside 4 (some .int)) (rm 0 0) (CPre D cy A (ZC A K) (cnC nS nL) ad M0 [.ref (ad 5 0), .int x1]) (QI D cy A (cnC nS nL) ad r M0) 0 0 A := by
  refine tb_start [.ref (ad 5 0), .int x1] [(0, .ref (ad 5 0)), (1, .int x1)] RX5 rfl (by decide +kernel) (Nat.le_of_ble_eq_true rfl) rfl (fun p e s m args below meth c hx hb hr hml hown hts hlk hW hK hZ ls hl => ?_)
  have hS : va_S A s.heap s.heap [] := va_S.rf
  unfold fX5_namesBeside at h
  refine lv_iconst (v := (0 : Int32)) hx hb dX5_namesBeside_0 (by decide) ?_
  refine lv_istore_n (lv' := [(2, .int (0 : Int32)), (0, .ref (ad 5 0)), (1, .int x1)]) hx hb dX5_namesBeside_1 rfl hl (by decide) rfl (fun ls hl => ?_)
  refine lv_iconst (v := (0 : Int32)) hx hb dX5_namesBeside_2 (by decide) ?_
  refine lv_istore_n (lv' := [(3, .int (0 : Int32)), (2, .int (0 : Int32)), (0, .ref (ad 5 0)), (1, .int x1)]) hx hb dX5_namesBeside_3 rfl hl (by decide) rfl (fun ls hl => ?_)
  have L1 : ∀ (n1 : Nat) (i2 : Int32) (i3 : Int32) (H : Heap) (locs : List Loc) (ls : Array Slot), Wd D cy A (cnC nS nL) ad M0 H → va_S A s.heap H locs → lv_has ls 4 [(0, .ref (ad 5 0)), (1, .int x1), (2, .int i2), (3, .int i3)] → fX5_namesBeside_l4 M0 x1 n1 i2 i3 = some r → W p l e (rm 0 0) s m args below meth c H locs 0 0 (MQ below (QI D cy A (cnC nS nL) ad r M0) args s 0 0 A) (F0 m 4 ls []) := by
    intro n1
    induction n1 with
    | zero => intro i2 i3 H locs ls hW hS hl h; cases h
    | succ n1 ih1 =>
      intro i2 i3 H locs ls hW hS hl h
      unfold fX5_namesBeside_l4 fX5_namesBeside_b4 at h
      refine lv_iload_n hx hb dX5_namesBeside_4 rfl (lv_at hl 3 rfl) ?_
      refine lv_aload_n hx hb dX5_namesBeside_5 rfl (lv_at hl 0 rfl) ?_
      refine gtX5_27 hx hb hts hown hK hW cz5 dX5_namesBeside_6 ?_
      refine lv_icmp_ge (tgt := 46) hx hb dX5_namesBeside_9 (by decide) (fun c4 => ?_) (fun c4 => ?_)
      · replace h := sh_t c4 h
        refine lv_iload_n hx hb dX5_namesBeside_46 rfl (lv_at hl 2 rfl) ?_
        exact tb_iretO h hx hb hr hS hW hlk dX5_namesBeside_47
      · replace h := sh_f c4 h
        refine lv_aload_n hx hb dX5_namesBeside_12 rfl (lv_at hl 0 rfl) ?_
        refine gtX5_11 hx hb hts hown hK hW cz5 dX5_namesBeside_13 ?_
        refine lv_iload_n hx hb dX5_namesBeside_16 rfl (lv_at hl 3 rfl) ?_
        replace h := ix_a h
        obtain ⟨hj, h⟩ := h
        refine al32 hx hb hK hW cz32 hj dX5_namesBeside_17 (fun o5 eo5 ho5 => ?_)
        replace h := nm_a eo5 h
        replace h := oc_d h
        obtain ⟨a6, ea6, h⟩ := h
        subst ea6
        have la6 := ho5 _ rfl
        refine gtX5_105 hx hb hts hown hK hW la6 dX5_namesBeside_18 ?_
        refine lv_iload_n hx hb dX5_namesBeside_21 rfl (lv_at hl 1 rfl) ?_
        refine lv_iushr hx hb dX5_namesBeside_22 rfl ?_
        refine lv_iconst (v := (1 : Int32)) hx hb dX5_namesBeside_23 (by decide) ?_
        refine lv_iand hx hb dX5_namesBeside_24 ?_
        refine lv_if_eq (tgt := 40) hx hb dX5_namesBeside_25 (by decide) (fun c7 => ?_) (fun c7 => ?_)
        · replace h := sh_t c7 h
          obtain ⟨v8, ev8⟩ : ∃ y : Int32, y = i3 + (1 : Int32) := ⟨_, rfl⟩
          replace h := nm_a ev8 h
          refine lv_iinc (v := v8) (lv' := [(3, .int v8), (0, .ref (ad 5 0)), (1, .int x1), (2, .int i2)]) hx hb dX5_namesBeside_40 hl (k := 3) rfl (by rw [ev8]; rfl) (by decide) rfl (fun ls hl => ?_)
          refine lv_goto (tgt := 4) hx hb dX5_namesBeside_43 (by decide) ?_
          exact ih1 i2 v8 _ _ _ hW hS (lv_sub hl [1, 2, 3, 0] rfl) h
        · replace h := sh_f c7 h
          refine lv_iload_n hx hb dX5_namesBeside_28 rfl (lv_at hl 2 rfl) ?_
          refine lv_aload_n hx hb dX5_namesBeside_29 rfl (lv_at hl 0 rfl) ?_
          refine gtX5_11 hx hb hts hown hK hW cz5 dX5_namesBeside_30 ?_
          refine lv_iload_n hx hb dX5_namesBeside_33 rfl (lv_at hl 3 rfl) ?_
          replace h := ix_a h
          obtain ⟨hj, h⟩ := h
          refine al32 hx hb hK hW cz32 hj dX5_namesBeside_34 (fun o9 eo9 ho9 => ?_)
          replace h := nm_a eo9 h
          replace h := oc_d h
          obtain ⟨a10, ea10, h⟩ := h
          subst ea10
          have la10 := ho9 _ rfl
          refine gtX5_105 hx hb hts hown hK hW la10 dX5_namesBeside_35 ?_
          refine lv_ior hx hb dX5_namesBeside_38 ?_
          refine lv_topi (fun v11 ev11 => ?_)
          replace h := nm_a ev11 h
          refine lv_istore_n (lv' := [(2, .int v11), (0, .ref (ad 5 0)), (1, .int x1), (3, .int i3)]) hx hb dX5_namesBeside_39 rfl hl (by decide) rfl (fun ls hl => ?_)
          obtain ⟨v12, ev12⟩ : ∃ y : Int32, y = i3 + (1 : Int32) := ⟨_, rfl⟩
          replace h := nm_a ev12 h
          refine lv_iinc (v := v12) (lv' := [(3, .int v12), (2, .int v11), (0, .ref (ad 5 0)), (1, .int x1)]) hx hb dX5_namesBeside_40 hl (k := 3) rfl (by rw [ev12]; rfl) (by decide) rfl (fun ls hl => ?_)
          refine lv_goto (tgt := 4) hx hb dX5_namesBeside_43 (by decide) ?_
          exact ih1 v11 v12 _ _ _ hW hS (lv_sub hl [2, 3, 1, 0] rfl) h
  exact L1 FU (0 : Int32) (0 : Int32) _ _ _ hW hS (lv_sub hl [2, 3, 1, 0] rfl) h
def fX5_firstsBy_b5 (M0 : Mem) (x1 : Int32) (k1 : Int64 → Int32 → Option Int64) (j2 : Int64) (i3 : Int32) : Option Int64 :=
  if (mgI M0 502 0 0) ≤ i3 then (some j2) else (ix i3 64 <| nm (mgR M0 3200 0 i3.toNatClampNeg) fun o5 => oc o5 none fun a6 => if (mgI M0 801 a6 0) = (1 : Int32) then (ix i3 64 <| nm (mgR M0 3200 0 i3.toNatClampNeg) fun o9 => oc o9 none fun a10 => if 0 ≤ (mgI M0 807 a10 0) then (nm (i3 + (1 : Int32)) fun v12 => k1 j2 v12) else (ix i3 64 <| nm (mgR M0 3200 0 i3.toNatClampNeg) fun o13 => oc o13 none fun a14 => if ((mgI M0 806 a14 0) &&& x1) = 0 then (nm (i3 + (1 : Int32)) fun v16 => k1 j2 v16) else (nm (j2 ||| (fX11_bit i3)) fun v17 => nm (i3 + (1 : Int32)) fun v18 => k1 v17 v18))) else (nm (i3 + (1 : Int32)) fun v8 => k1 j2 v8))
def fX5_firstsBy_l5 (M0 : Mem) (x1 : Int32) : Nat → Int64 → Int32 → Option Int64
  | 0, _, _ => none
  | n + 1, j2, i3 => fX5_firstsBy_b5 M0 x1 (fX5_firstsBy_l5 M0 x1 n) j2 i3
def fX5_firstsBy (x1 : Int32) (M0 : Mem) : Option Int64 :=
  fX5_firstsBy_l5 M0 x1 FU (0 : Int64) (0 : Int32)
set_option maxHeartbeats 4000000 in
set_option maxRecDepth 100000 in
theorem mX5_firstsBy {l : Launch} {D : va_G} {cy : Nat → ClassId} {A : Nat → Prop} {K : KC} {nS nL : Nat} {ad : Nat → Nat → Nat} (hZk : ZOK A (ZC A K)) (x1 : Int32) (M0 : Mem) (r : Int64) (h : fX5_firstsBy x1 M0 = some r) : Met l yX5_firstsBy (wt yX5_firstsBy cX5_firstsBy 5 (some .long)) (rm 1 20) (CPre D cy A (ZC A K) (cnC nS nL) ad M0 [.ref (ad 5 0), .int x1]) (QL D cy A (cnC nS nL) ad r M0) 0 0 A := by
  refine tb_start [.ref (ad 5 0), .int x1] [(0, .ref (ad 5 0)), (1, .int x1)] RX5 rfl (by decide +kernel) (Nat.le_of_ble_eq_true rfl) rfl (fun p e s m args below meth c hx hb hr hml hown hts hlk hW hK hZ ls hl => ?_)
  have hS : va_S A s.heap s.heap [] := va_S.rf
  unfold fX5_firstsBy at h
  refine lv_lconst (v := (0 : Int64)) hx hb dX5_firstsBy_0 (by decide) ?_
  refine lv_lstore_n (lv' := [(2, .long (0 : Int64)), (0, .ref (ad 5 0)), (1, .int x1)]) hx hb dX5_firstsBy_1 rfl hl (by decide) rfl (fun ls hl => ?_)
  refine lv_iconst (v := (0 : Int32)) hx hb dX5_firstsBy_2 (by decide) ?_
  refine lv_istore (lv' := [(4, .int (0 : Int32)), (2, .long (0 : Int64)), (0, .ref (ad 5 0)), (1, .int x1)]) hx hb dX5_firstsBy_3 hl (by decide) rfl (fun ls hl => ?_)
  have L1 : ∀ (n1 : Nat) (j2 : Int64) (i3 : Int32) (H : Heap) (locs : List Loc) (ls : Array Slot), Wd D cy A (cnC nS nL) ad M0 H → va_S A s.heap H locs → lv_has ls 5 [(0, .ref (ad 5 0)), (1, .int x1), (2, .long j2), (4, .int i3)] → fX5_firstsBy_l5 M0 x1 n1 j2 i3 = some r → W p l e (rm 1 20) s m args below meth c H locs 0 0 (MQ below (QL D cy A (cnC nS nL) ad r M0) args s 0 0 A) (F0 m 5 ls []) := by
    intro n1
    induction n1 with
    | zero => intro j2 i3 H locs ls hW hS hl h; cases h
    | succ n1 ih1 =>
      intro j2 i3 H locs ls hW hS hl h
      unfold fX5_firstsBy_l5 fX5_firstsBy_b5 at h
      refine lv_iload hx hb dX5_firstsBy_5 (lv_at hl 3 rfl) ?_
      refine lv_aload_n hx hb dX5_firstsBy_7 rfl (lv_at hl 0 rfl) ?_
      refine gtX5_27 hx hb hts hown hK hW cz5 dX5_firstsBy_8 ?_
      refine lv_icmp_ge (tgt := 70) hx hb dX5_firstsBy_11 (by decide) (fun c4 => ?_) (fun c4 => ?_)
      · replace h := sh_t c4 h
        refine lv_lload_n hx hb dX5_firstsBy_70 rfl (lv_at hl 2 rfl) ?_
        exact tb_lretO h hx hb hr hS hW hlk dX5_firstsBy_71
      · replace h := sh_f c4 h
        refine lv_aload_n hx hb dX5_firstsBy_14 rfl (lv_at hl 0 rfl) ?_
        refine gtX5_11 hx hb hts hown hK hW cz5 dX5_firstsBy_15 ?_
        refine lv_iload hx hb dX5_firstsBy_18 (lv_at hl 3 rfl) ?_
        replace h := ix_a h
        obtain ⟨hj, h⟩ := h
        refine al32 hx hb hK hW cz32 hj dX5_firstsBy_20 (fun o5 eo5 ho5 => ?_)
        replace h := nm_a eo5 h
        replace h := oc_d h
        obtain ⟨a6, ea6, h⟩ := h
        subst ea6
        have la6 := ho5 _ rfl
        refine gtX5_40 hx hb hts hown hK hW la6 dX5_firstsBy_21 ?_
        refine lv_iconst (v := (1 : Int32)) hx hb dX5_firstsBy_24 (by decide) ?_
        refine lv_icmp_ne (tgt := 64) hx hb dX5_firstsBy_25 (by decide) (fun c7 => ?_) (fun c7 => ?_)
        · replace h := sh_f c7 h
          obtain ⟨v8, ev8⟩ : ∃ y : Int32, y = i3 + (1 : Int32) := ⟨_, rfl⟩
          replace h := nm_a ev8 h
          refine lv_iinc (v := v8) (lv' := [(4, .int v8), (0, .ref (ad 5 0)), (1, .int x1), (2, .long j2)]) hx hb dX5_firstsBy_64 hl (k := 3) rfl (by rw [ev8]; rfl) (by decide) rfl (fun ls hl => ?_)
          refine lv_goto (tgt := 5) hx hb dX5_firstsBy_67 (by decide) ?_
          exact ih1 j2 v8 _ _ _ hW hS (lv_sub hl [1, 2, 3, 0] rfl) h
        · replace h := sh_t c7 h
          refine lv_aload_n hx hb dX5_firstsBy_28 rfl (lv_at hl 0 rfl) ?_
          refine gtX5_11 hx hb hts hown hK hW cz5 dX5_firstsBy_29 ?_
          refine lv_iload hx hb dX5_firstsBy_32 (lv_at hl 3 rfl) ?_
          replace h := ix_a h
          obtain ⟨hj, h⟩ := h
          refine al32 hx hb hK hW cz32 hj dX5_firstsBy_34 (fun o9 eo9 ho9 => ?_)
          replace h := nm_a eo9 h
          replace h := oc_d h
          obtain ⟨a10, ea10, h⟩ := h
          subst ea10
          have la10 := ho9 _ rfl
          refine gtX5_108 hx hb hts hown hK hW la10 dX5_firstsBy_35 ?_
          refine lv_if_ge (tgt := 64) hx hb dX5_firstsBy_38 (by decide) (fun c11 => ?_) (fun c11 => ?_)
          · replace h := sh_t c11 h
            obtain ⟨v12, ev12⟩ : ∃ y : Int32, y = i3 + (1 : Int32) := ⟨_, rfl⟩
            replace h := nm_a ev12 h
            refine lv_iinc (v := v12) (lv' := [(4, .int v12), (0, .ref (ad 5 0)), (1, .int x1), (2, .long j2)]) hx hb dX5_firstsBy_64 hl (k := 3) rfl (by rw [ev12]; rfl) (by decide) rfl (fun ls hl => ?_)
            refine lv_goto (tgt := 5) hx hb dX5_firstsBy_67 (by decide) ?_
            exact ih1 j2 v12 _ _ _ hW hS (lv_sub hl [1, 2, 3, 0] rfl) h
          · replace h := sh_f c11 h
            refine lv_aload_n hx hb dX5_firstsBy_41 rfl (lv_at hl 0 rfl) ?_
            refine gtX5_11 hx hb hts hown hK hW cz5 dX5_firstsBy_42 ?_
            refine lv_iload hx hb dX5_firstsBy_45 (lv_at hl 3 rfl) ?_
            replace h := ix_a h
            obtain ⟨hj, h⟩ := h
            refine al32 hx hb hK hW cz32 hj dX5_firstsBy_47 (fun o13 eo13 ho13 => ?_)
            replace h := nm_a eo13 h
            replace h := oc_d h
            obtain ⟨a14, ea14, h⟩ := h
            subst ea14
            have la14 := ho13 _ rfl
            refine gtX5_105 hx hb hts hown hK hW la14 dX5_firstsBy_48 ?_
            refine lv_iload_n hx hb dX5_firstsBy_51 rfl (lv_at hl 1 rfl) ?_
            refine lv_iand hx hb dX5_firstsBy_52 ?_
            refine lv_if_eq (tgt := 64) hx hb dX5_firstsBy_53 (by decide) (fun c15 => ?_) (fun c15 => ?_)
            · replace h := sh_t c15 h
              obtain ⟨v16, ev16⟩ : ∃ y : Int32, y = i3 + (1 : Int32) := ⟨_, rfl⟩
              replace h := nm_a ev16 h
              refine lv_iinc (v := v16) (lv' := [(4, .int v16), (0, .ref (ad 5 0)), (1, .int x1), (2, .long j2)]) hx hb dX5_firstsBy_64 hl (k := 3) rfl (by rw [ev16]; rfl) (by decide) rfl (fun ls hl => ?_)
              refine lv_goto (tgt := 5) hx hb dX5_firstsBy_67 (by decide) ?_
              exact ih1 j2 v16 _ _ _ hW hS (lv_sub hl [1, 2, 3, 0] rfl) h
            · replace h := sh_f c15 h
              refine lv_lload_n hx hb dX5_firstsBy_56 rfl (lv_at hl 2 rfl) ?_
              refine lv_iload hx hb dX5_firstsBy_57 (lv_at hl 3 rfl) ?_
              refine tb_cNL hZk hx hb hml hown hts hK hZ hW hS [.int i3] (mX11_bit (l := l) hZk i3 M0 (fX11_bit i3) rfl) pmX11_bit (hZ.2.2.2.2.2.1 7 _ rfl) ⟨Nat.le_of_ble_eq_true rfl, Nat.le_of_ble_eq_true rfl⟩ rfl hl.1 (Nat.le_of_ble_eq_true rfl) ⟨Nat.le_refl _, Nat.le_refl _⟩ rfl dX5_firstsBy_59 (fun H locs hW hS => ?_)
              refine lv_lor hx hb dX5_firstsBy_62 ?_
              refine lv_topl (fun v17 ev17 => ?_)
              replace h := nm_a ev17 h
              refine lv_lstore_n (lv' := [(2, .long v17), (0, .ref (ad 5 0)), (1, .int x1), (4, .int i3)]) hx hb dX5_firstsBy_63 rfl hl (by decide) rfl (fun ls hl => ?_)
              obtain ⟨v18, ev18⟩ : ∃ y : Int32, y = i3 + (1 : Int32) := ⟨_, rfl⟩
              replace h := nm_a ev18 h
              refine lv_iinc (v := v18) (lv' := [(4, .int v18), (2, .long v17), (0, .ref (ad 5 0)), (1, .int x1)]) hx hb dX5_firstsBy_64 hl (k := 3) rfl (by rw [ev18]; rfl) (by decide) rfl (fun ls hl => ?_)
              refine lv_goto (tgt := 5) hx hb dX5_firstsBy_67 (by decide) ?_
              exact ih1 v17 v18 _ _ _ hW hS (lv_sub hl [2, 3, 1, 0] rfl) h
  exact L1 FU (0 : Int64) (0 : Int32) _ _ _ hW hS (lv_sub hl [2, 3, 1, 0] rfl) h
def fX5_greatest_b6 (M0 : Mem) (k1 : Int32 → Int32 → Int32 → Option Int32) (i2 : Int32) (i3 : Int32) (i4 : Int32) : Option Int32 :=
  if (mgI M0 502 0 0) ≤ i4 then (some i2) else (ix i4 64 <| if (mgI M0 3400 0 i4.toNatClampNeg) ≤ i3 then (nm (i4 + (1 : Int32)) fun v7 => k1 i2 i3 v7) else (ix i4 64 <| nm (mgI M0 3400 0 i4.toNatClampNeg) fun v8 => nm (i4 + (1 : Int32)) fun v9 => k1 i4 v8 v9))
def fX5_greatest_l6 (M0 : Mem) : Nat → Int32 → Int32 → Int32 → Option Int32
  | 0, _, _, _ => none
  | n + 1, i2, i3, i4 => fX5_greatest_b6 M0 (fX5_greatest_l6 M0 n) i2 i3 i4
def fX5_greatest (M0 : Mem) : Option Int32 :=
  fX5_greatest_l6 M0 FU (-1 : Int32) (-1 : Int32) (0 : Int32)
set_option maxHeartbeats 4000000 in
set_option maxRecDepth 100000 in
theorem mX5_greatest {l : Launch} {D : va_G} {cy : Nat → ClassId} {A : Nat → Prop} {K : KC} {nS nL : Nat} {ad : Nat → Nat → Nat} (hZk : ZOK A (ZC A K)) (M0 : Mem) (r : Int32) (h : fX5_greatest M0 = some r) : Met l yX5_greatest (wt yX5_greatest cX5_greatest 4 (some .int)) (rm 0 0) (CPre D cy A (ZC A K) (cnC nS nL) ad M0 [.ref (ad 5 0)]) (QI D cy A (cnC nS nL) ad r M0) 0 0 A := by
  refine tb_start [.ref (ad 5 0)] [(0, .ref (ad 5 0))] RX5 rfl (by decide +kernel) (Nat.le_of_ble_eq_true rfl) rfl (fun p e s m args below meth c hx hb hr hml hown hts hlk hW hK hZ ls hl => ?_)
  have hS : va_S A s.heap s.heap [] := va_S.rf
  unfold fX5_greatest at h
  refine lv_iconst (v := (-1 : Int32)) hx hb dX5_greatest_0 (by decide) ?_
  refine lv_istore_n (lv' := [(1, .int (-1 : Int32)), (0, .ref (ad 5 0))]) hx hb dX5_greatest_1 rfl hl (by decide) rfl (fun ls hl => ?_)
  refine lv_iconst (v := (-1 : Int32)) hx hb dX5_greatest_2 (by decide) ?_
  refine lv_istore_n (lv' := [(2, .int (-1 : Int32)), (1, .int (-1 : Int32)), (0, .ref (ad 5 0))]) hx hb dX5_greatest_3 rfl hl (by decide) rfl (fun ls hl => ?_)
  refine lv_iconst (v := (0 : Int32)) hx hb dX5_greatest_4 (by decide) ?_
  refine lv_istore_n (lv' := [(3, .int (0 : Int32)), (2, .int (-1 : Int32)), (1, .int (-1 : Int32)), (0, .ref (ad 5 0))]) hx hb dX5_greatest_5 rfl hl (by decide) rfl (fun ls hl => ?_)
  have L1 : ∀ (n1 : Nat) (i2 : Int32) (i3 : Int32) (i4 : Int32) (H : Heap) (locs : List Loc) (ls : Array Slot), Wd D cy A (cnC nS nL) ad M0 H → va_S A s.heap H locs → lv_has ls 4 [(0, .ref (ad 5 0)), (1, .int i2), (2, .int i3), (3, .int i4)] → fX5_greatest_l6 M0 n1 i2 i3 i4 = some r → W p l e (rm 0 0) s m args below meth c H locs 0 0 (MQ below (QI D cy A (cnC nS nL) ad r M0) args s 0 0 A) (F0 m 6 ls []) := by
    intro n1
    induction n1 with
    | zero => intro i2 i3 i4 H locs ls hW hS hl h; cases h
    | succ n1 ih1 =>
      intro i2 i3 i4 H locs ls hW hS hl h
      unfold fX5_greatest_l6 fX5_greatest_b6 at h
      refine lv_iload_n hx hb dX5_greatest_6 rfl (lv_at hl 3 rfl) ?_
      refine lv_aload_n hx hb dX5_greatest_7 rfl (lv_at hl 0 rfl) ?_
      refine gtX5_27 hx hb hts hown hK hW cz5 dX5_greatest_8 ?_
      refine lv_icmp_ge (tgt := 39) hx hb dX5_greatest_11 (by decide) (fun c5 => ?_) (fun c5 => ?_)
      · replace h := sh_t c5 h
        refine lv_iload_n hx hb dX5_greatest_39 rfl (lv_at hl 1 rfl) ?_
        exact tb_iretO h hx hb hr hS hW hlk dX5_greatest_40
      · replace h := sh_f c5 h
        refine lv_aload_n hx hb dX5_greatest_14 rfl (lv_at hl 0 rfl) ?_
        refine gtX5_23 hx hb hts hown hK hW cz5 dX5_greatest_15 ?_
        refine lv_iload_n hx hb dX5_greatest_18 rfl (lv_at hl 3 rfl) ?_
        replace h := ix_a h
        obtain ⟨hj, h⟩ := h
        refine al34 hx hb hK hW cz34 hj dX5_greatest_19 ?_
        refine lv_iload_n hx hb dX5_greatest_20 rfl (lv_at hl 2 rfl) ?_
        refine lv_icmp_le (tgt := 33) hx hb dX5_greatest_21 (by decide) (fun c6 => ?_) (fun c6 => ?_)
        · replace h := sh_t c6 h
          obtain ⟨v7, ev7⟩ : ∃ y : Int32, y = i4 + (1 : Int32) := ⟨_, rfl⟩
          replace h := nm_a ev7 h
          refine lv_iinc (v := v7) (lv' := [(3, .int v7), (0, .ref (ad 5 0)), (1, .int i2), (2, .int i3)]) hx hb dX5_greatest_33 hl (k := 3) rfl (by rw [ev7]; rfl) (by decide) rfl (fun ls hl => ?_)
          refine lv_goto (tgt := 6) hx hb dX5_greatest_36 (by decide) ?_
          exact ih1 i2 i3 v7 _ _ _ hW hS (lv_sub hl [1, 2, 3, 0] rfl) h
        · replace h := sh_f c6 h
          refine lv_iload_n hx hb dX5_greatest_24 rfl (lv_at hl 3 rfl) ?_
          refine lv_istore_n (lv' := [(1, .int i4), (0, .ref (ad 5 0)), (2, .int i3), (3, .int i4)]) hx hb dX5_greatest_25 rfl hl (by decide) rfl (fun ls hl => ?_)
          refine lv_aload_n hx hb dX5_greatest_26 rfl (lv_at hl 1 rfl) ?_
          refine gtX5_23 hx hb hts hown hK hW cz5 dX5_greatest_27 ?_
          refine lv_iload_n hx hb dX5_greatest_30 rfl (lv_at hl 3 rfl) ?_
          replace h := ix_a h
          obtain ⟨hj, h⟩ := h
          refine al34 hx hb hK hW cz34 hj dX5_greatest_31 ?_
          refine lv_topi (fun v8 ev8 => ?_)
          replace h := nm_a ev8 h
          refine lv_istore_n (lv' := [(2, .int v8), (1, .int i4), (0, .ref (ad 5 0)), (3, .int i4)]) hx hb dX5_greatest_32 rfl hl (by decide) rfl (fun ls hl => ?_)
          obtain ⟨v9, ev9⟩ : ∃ y : Int32, y = i4 + (1 : Int32) := ⟨_, rfl⟩
          replace h := nm_a ev9 h
          refine lv_iinc (v := v9) (lv' := [(3, .int v9), (2, .int v8), (1, .int i4), (0, .ref (ad 5 0))]) hx hb dX5_greatest_33 hl (k := 3) rfl (by rw [ev9]; rfl) (by decide) rfl (fun ls hl => ?_)
          refine lv_goto (tgt := 6) hx hb dX5_greatest_36 (by decide) ?_
          exact ih1 i4 v8 v9 _ _ _ hW hS (lv_sub hl [3, 2, 1, 0] rfl) h
  exact L1 FU (-1 : Int32) (-1 : Int32) (0 : Int32) _ _ _ hW hS (lv_sub hl [3, 2, 1, 0] rfl) h
def fX5_ithMostStoodOn_b53 (x3 : Int32) (k5 : Int32 → Int32 → Mem → Option (Int32 × Mem)) (i6 : Int32) (i7 : Int32) (M8 : Mem) : Option (Int32 × Mem) :=
  if x3 < i7 then (some (i6, M8)) else (if (64 : Int32) ≤ i7 then (some (i6, M8)) else (bd (fX5_greatest M8) fun b11 => if b11 < 0 then (nm (i7 + (1 : Int32)) fun v13 => k5 b11 v13 M8) else (ix b11 64 <| nm (msI M8 3400 0 b11.toNatClampNeg (-1 : Int32)) fun M14 => nm (i7 + (1 : Int32)) fun v15 => k5 b11 v15 M14)))
def fX5_ithMostStoodOn_l53 (x3 : Int32) : Nat → Int32 → Int32 → Mem → Option (Int32 × Mem)
  | 0, _, _, _ => none
  | n + 1, i6, i7, M8 => fX5_ithMostStoodOn_b53 x3 (fX5_ithMostStoodOn_l53 x3 n) i6 i7 M8
def fX5_ithMostStoodOn_b3 (x3 : Int32) (x1 : Int64) (k1 : Int32 → Mem → Option (Int32 × Mem)) (i2 : Int32) (M3 : Mem) : Option (Int32 × Mem) :=
  if (mgI M3 502 0 0) ≤ i2 then (fX5_ithMostStoodOn_l53 x3 FU (-1 : Int32) (0 : Int32) M3) else (nm (fX11_isIn x1 i2) fun b16 => if b16 = 0 then (ix i2 64 <| nm (msI M3 3400 0 i2.toNatClampNeg (-1 : Int32)) fun M18 => nm (i2 + (1 : Int32)) fun v19 => k1 v19 M18) else (bd (fX5_above i2 M3) fun g20 => nm (fJ13_bitCount_95d88 g20) fun v21 => ix i2 64 <| nm (msI M3 3400 0 i2.toNatClampNeg v21) fun M22 => nm (i2 + (1 : Int32)) fun v23 => k1 v23 M22))
def fX5_ithMostStoodOn_l3 (x3 : Int32) (x1 : Int64) : Nat → Int32 → Mem → Option (Int32 × Mem)
  | 0, _, _ => none
  | n + 1, i2, M3 => fX5_ithMostStoodOn_b3 x3 x1 (fX5_ithMostStoodOn_l3 x3 x1 n) i2 M3
def fX5_ithMostStoodOn (x1 : Int64) (x3 : Int32) (M0 : Mem) : Option (Int32 × Mem) :=
  fX5_ithMostStoodOn_l3 x3 x1 FU (0 : Int32) M0
set_option maxHeartbeats 4000000 in
set_option maxRecDepth 100000 in
theorem mX5_ithMostStoodOn {l : Launch} {D : va_G} {cy : Nat → ClassId} {A : Nat → Prop} {K : KC} {nS nL : Nat} {ad : Nat → Nat → Nat} (hZk : ZOK A (ZC A K)) (x1 : Int64) (x3 : Int32) (M0 : Mem) (r : Int32) (M' : Mem) (h : fX5_ithMostStoodOn x1 x3 M0 = some (r, M')) : Met l yX5_ithMostStoodOn (wt yX5_ithMostStoodOn cX5_ithMostStoodOn 6 (some .int)) (rm 2 46) (CPre D cy A (ZC A K) (cnC nS nL) ad M0 [.ref (ad 5 0), .long x1, .int x3]) (QI D cy A (cnC nS nL) ad r M') 0 0 A := by
  refine tb_start [.ref (ad 5 0), .long x1, .int x3] [(0, .ref (ad 5 0)), (1, .long x1), (3, .int x3)] RX5 rfl (by decide +kernel) (Nat.le_of_ble_eq_true rfl) rfl (fun p e s m args below meth c hx hb hr hml hown hts hlk hW hK hZ ls hl => ?_)
  have hS : va_S A s.heap s.heap [] := va_S.rf
  unfold fX5_ithMostStoodOn at h
  refine lv_iconst (v := (0 : Int32)) hx hb dX5_ithMostStoodOn_0 (by decide) ?_
  refine lv_istore (lv' := [(4, .int (0 : Int32)), (0, .ref (ad 5 0)), (1, .long x1), (3, .int x3)]) hx hb dX5_ithMostStoodOn_1 hl (by decide) rfl (fun ls hl => ?_)
  have L1 : ∀ (n1 : Nat) (i2 : Int32) (M3 : Mem) (H : Heap) (locs : List Loc) (ls : Array Slot), Wd D cy A (cnC nS nL) ad M3 H → va_S A s.heap H locs → lv_has ls 6 [(0, .ref (ad 5 0)), (1, .long x1), (3, .int x3), (4, .int i2)] → fX5_ithMostStoodOn_l3 x3 x1 n1 i2 M3 = some (r, M') → W p l e (rm 2 46) s m args below meth c H locs 0 0 (MQ below (QI D cy A (cnC nS nL) ad r M') args s 0 0 A) (F0 m 3 ls []) := by
    intro n1
    induction n1 with
    | zero => intro i2 M3 H locs ls hW hS hl h; cases h
    | succ n1 ih1 =>
      intro i2 M3 H locs ls hW hS hl h
      unfold fX5_ithMostStoodOn_l3 fX5_ithMostStoodOn_b3 at h
      refine lv_iload hx hb dX5_ithMostStoodOn_3 (lv_at hl 3 rfl) ?_
      refine lv_aload_n hx hb dX5_ithMostStoodOn_5 rfl (lv_at hl 0 rfl) ?_
      refine gtX5_27 hx hb hts hown hK hW cz5 dX5_ithMostStoodOn_6 ?_
      refine lv_icmp_ge (tgt := 47) hx hb dX5_ithMostStoodOn_9 (by decide) (fun c4 => ?_) (fun c4 => ?_)
      · replace h := sh_t c4 h
        refine lv_iconst (v := (-1 : Int32)) hx hb dX5_ithMostStoodOn_47 (by decide) ?_
        refine lv_istore (lv' := [(4, .int (-1 : Int32)), (0, .ref (ad 5 0)), (1, .long x1), (3, .int x3)]) hx hb dX5_ithMostStoodOn_48 hl (by decide) rfl (fun ls hl => ?_)
        refine lv_iconst (v := (0 : Int32)) hx hb dX5_ithMostStoodOn_50 (by decide) ?_
        refine lv_istore (lv' := [(5, .int (0 : Int32)), (4, .int (-1 : Int32)), (0, .ref (ad 5 0)), (1, .long x1), (3, .int x3)]) hx hb dX5_ithMostStoodOn_51 hl (by decide) rfl (fun ls hl => ?_)
        have L5 : ∀ (n5 : Nat) (i6 : Int32) (i7 : Int32) (M8 : Mem) (H : Heap) (locs : List Loc) (ls : Array Slot), Wd D cy A (cnC nS nL) ad M8 H → va_S A s.heap H locs → lv_has ls 6 [(0, .ref (ad 5 0)), (3, .int x3), (4, .int i6), (5, .int i7)] → fX5_ithMostStoodOn_l53 x3 n5 i6 i7 M8 = some (r, M') → W p l e (rm 2 46) s m args below meth c H locs 0 0 (MQ below (QI D cy A (cnC nS nL) ad r M') args s 0 0 A) (F0 m 53 ls []) := by
          intro n5
          induction n5 with
          | zero => intro i6 i7 M8 H locs ls hW hS hl h; cases h
          | succ n5 ih5 =>
            intro i6 i7 M8 H locs ls hW hS hl h
            unfold fX5_ithMostStoodOn_l53 fX5_ithMostStoodOn_b53 at h
            refine lv_iload hx hb dX5_ithMostStoodOn_53 (lv_at hl 3 rfl) ?_
            refine lv_iload_n hx hb dX5_ithMostStoodOn_55 rfl (lv_at hl 1 rfl) ?_
            refine lv_icmp_gt (tgt := 91) hx hb dX5_ithMostStoodOn_56 (by decide) (fun c9 => ?_) (fun c9 => ?_)
            · replace h := sh_t c9 h
              refine lv_iload hx hb dX5_ithMostStoodOn_91 (lv_at hl 2 rfl) ?_
              exact tb_iretE h hx hb hr hS hW hlk dX5_ithMostStoodOn_93
            · replace h := sh_f c9 h
              refine lv_iload hx hb dX5_ithMostStoodOn_59 (lv_at hl 3 rfl) ?_
              refine lv_bipush (v := (64 : Int32)) hx hb dX5_ithMostStoodOn_61 (by decide) ?_
              refine lv_icmp_ge (tgt := 91) hx hb dX5_ithMostStoodOn_63 (by decide) (fun c10 => ?_) (fun c10 => ?_)
              · replace h := sh_t c10 h
                refine lv_iload hx hb dX5_ithMostStoodOn_91 (lv_at hl 2 rfl) ?_
                exact tb_iretE h hx hb hr hS hW hlk dX5_ithMostStoodOn_93
              · replace h := sh_f c10 h
                refine lv_aload_n hx hb dX5_ithMostStoodOn_66 rfl (lv_at hl 0 rfl) ?_
                replace h := bd_a h
                obtain ⟨b11, hcb11, h⟩ := h
                refine tb_cVI hZk hx hb hml hown hts hK hZ hW hS [] (mX5_greatest (l := l) hZk M8 b11 hcb11) pmX5_greatest tw1081 (Wd.recv hK hW (t := 5) (by decide) cz5 (C := RX5) (T := TX5) (N := 7) rfl) ⟨Nat.le_of_ble_eq_true rfl, Nat.le_of_ble_eq_true rfl⟩ rfl hl.1 (Nat.le_of_ble_eq_true rfl) ⟨Nat.le_refl _, Nat.le_refl _⟩ rfl dX5_ithMostStoodOn_67 (fun H locs hW hS => ?_)
                refine lv_istore (lv' := [(4, .int b11), (0, .ref (ad 5 0)), (3, .int x3), (5, .int i7)]) hx hb dX5_ithMostStoodOn_70 hl (by decide) rfl (fun ls hl => ?_)
                refine lv_iload hx hb dX5_ithMostStoodOn_72 (lv_at hl 0 rfl) ?_
                refine lv_if_lt (tgt := 85) hx hb dX5_ithMostStoodOn_74 (by decide) (fun c12 => ?_) (fun c12 => ?_)
                · replace h := sh_t c12 h
                  obtain ⟨v13, ev13⟩ : ∃ y : Int32, y = i7 + (1 : Int32) := ⟨_, rfl⟩
                  replace h := nm_a ev13 h
                  refine lv_iinc (v := v13) (lv' := [(5, .int v13), (4, .int b11), (0, .ref (ad 5 0)), (3, .int x3)]) hx hb dX5_ithMostStoodOn_85 hl (k := 3) rfl (by rw [ev13]; rfl) (by decide) rfl (fun ls hl => ?_)
                  refine lv_goto (tgt := 53) hx hb dX5_ithMostStoodOn_88 (by decide) ?_
                  exact ih5 b11 v13 M8 _ _ _ hW hS (lv_sub hl [2, 3, 1, 0] rfl) h
                · replace h := sh_f c12 h
                  refine lv_aload_n hx hb dX5_ithMostStoodOn_77 rfl (lv_at hl 1 rfl) ?_
                  refine gtX5_23 hx hb hts hown hK hW cz5 dX5_ithMostStoodOn_78 ?_
                  refine lv_iload hx hb dX5_ithMostStoodOn_81 (lv_at hl 0 rfl) ?_
                  refine lv_iconst (v := (-1 : Int32)) hx hb dX5_ithMostStoodOn_83 (by decide) ?_
                  replace h := ix_a h
                  obtain ⟨hj, h⟩ := h
                  refine as34 hx hb hK hW hS cz34 hj dX5_ithMostStoodOn_84 (fun H locs hW hS => ?_)
                  obtain ⟨M14, eM14⟩ : ∃ y, y = msI M8 3400 0 b11.toNatClampNeg (-1 : Int32) := ⟨_, rfl⟩
                  replace h := nm_a eM14 h
                  rw [← eM14] at hW
                  obtain ⟨v15, ev15⟩ : ∃ y : Int32, y = i7 + (1 : Int32) := ⟨_, rfl⟩
                  replace h := nm_a ev15 h
                  refine lv_iinc (v := v15) (lv' := [(5, .int v15), (4, .int b11), (0, .ref (ad 5 0)), (3, .int x3)]) hx hb dX5_ithMostStoodOn_85 hl (k := 3) rfl (by rw [ev15]; rfl) (by decide) rfl (fun ls hl => ?_)
                  refine lv_goto (tgt := 53) hx hb dX5_ithMostStoodOn_88 (by decide) ?_
                  exact ih5 b11 v15 M14 _ _ _ hW hS (lv_sub hl [2, 3, 1, 0] rfl) h
        exact L5 FU (-1 : Int32) (0 : Int32) M3 _ _ _ hW hS (lv_sub hl [2, 4, 1, 0] rfl) h
      · replace h := sh_f c4 h
        refine lv_aload_n hx hb dX5_ithMostStoodOn_12 rfl (lv_at hl 0 rfl) ?_
        refine gtX5_23 hx hb hts hown hK hW cz5 dX5_ithMostStoodOn_13 ?_
        refine lv_iload hx hb dX5_ithMostStoodOn_16 (lv_at hl 3 rfl) ?_
        refine lv_lload_n hx hb dX5_ithMostStoodOn_18 rfl (lv_at hl 1 rfl) ?_
        refine lv_iload hx hb dX5_ithMostStoodOn_19 (lv_at hl 3 rfl) ?_
        refine tb_cNZ hZk hx hb hml hown hts hK hZ hW hS [.long x1, .int i2] (mX11_isIn (l := l) hZk x1 i2 M3 (fX11_isIn x1 i2) rfl) pmX11_isIn (hZ.2.2.2.2.2.1 6 _ rfl) ⟨Nat.le_of_ble_eq_true rfl, Nat.le_of_ble_eq_true rfl⟩ rfl hl.1 (Nat.le_of_ble_eq_true rfl) ⟨Nat.le_refl _, Nat.le_refl _⟩ rfl dX5_ithMostStoodOn_21 (fun H locs hW hS hzz => ?_)
        refine lv_topi (fun b16 eb16 => ?_)
        replace h := nm_a eb16 h
        have hzb16 : b16 = 0 ∨ b16 = 1 := by rw [eb16]; exact hzz
        refine lv_if_eq (tgt := 39) hx hb dX5_ithMostStoodOn_24 (by decide) (fun c17 => ?_) (fun c17 => ?_)
        · replace h := sh_t c17 h
          refine lv_iconst (v := (-1 : Int32)) hx hb dX5_ithMostStoodOn_39 (by decide) ?_
          replace h := ix_a h
          obtain ⟨hj, h⟩ := h
          refine as34 hx hb hK hW hS cz34 hj dX5_ithMostStoodOn_40 (fun H locs hW hS => ?_)
          obtain ⟨M18, eM18⟩ : ∃ y, y = msI M3 3400 0 i2.toNatClampNeg (-1 : Int32) := ⟨_, rfl⟩
          replace h := nm_a eM18 h
          rw [← eM18] at hW
          obtain ⟨v19, ev19⟩ : ∃ y : Int32, y = i2 + (1 : Int32) := ⟨_, rfl⟩
          replace h := nm_a ev19 h
          refine lv_iinc (v := v19) (lv' := [(4, .int v19), (0, .ref (ad 5 0)), (1, .long x1), (3, .int x3)]) hx hb dX5_ithMostStoodOn_41 hl (k := 3) rfl (by rw [ev19]; rfl) (by decide) rfl (fun ls hl => ?_)
          refine lv_goto (tgt := 3) hx hb dX5_ithMostStoodOn_44 (by decide) ?_
          exact ih1 v19 M18 _ _ _ hW hS (lv_sub hl [1, 2, 3, 0] rfl) h
        · replace h := sh_f c17 h
          refine lv_aload_n hx hb dX5_ithMostStoodOn_27 rfl (lv_at hl 0 rfl) ?_
          refine lv_iload hx hb dX5_ithMostStoodOn_28 (lv_at hl 3 rfl) ?_
          replace h := bd_a h
          obtain ⟨g20, hcg20, h⟩ := h
          refine tb_cVL hZk hx hb hml hown hts hK hZ hW hS [.int i2] (mX5_above (l := l) hZk i2 M3 g20 hcg20) pmX5_above tw1079 (Wd.recv hK hW (t := 5) (by decide) cz5 (C := RX5) (T := TX5) (N := 7) rfl) ⟨Nat.le_of_ble_eq_true rfl, Nat.le_of_ble_eq_true rfl⟩ rfl hl.1 (Nat.le_of_ble_eq_true rfl) ⟨Nat.le_refl _, Nat.le_refl _⟩ rfl dX5_ithMostStoodOn_30 (fun H locs hW hS => ?_)
          refine tb_cSI hZk hx hb hml hown hts hK hZ hW hS [.long g20] (mJ13_bitCount_95d88 (l := l) hZk g20 M3 (fJ13_bitCount_95d88 g20) rfl) pmJ13_bitCount_95d88 tw1080 ⟨Nat.le_of_ble_eq_true rfl, Nat.le_of_ble_eq_true rfl⟩ rfl hl.1 (Nat.le_of_ble_eq_true rfl) ⟨Nat.le_refl _, Nat.le_refl _⟩ rfl dX5_ithMostStoodOn_33 (fun H locs hW hS => ?_)
          refine lv_goto (tgt := 40) hx hb dX5_ithMostStoodOn_36 (by decide) ?_
          refine lv_topi (fun v21 ev21 => ?_)
          replace h := nm_a ev21 h
          replace h := ix_a h
          obtain ⟨hj, h⟩ := h
          refine as34 hx hb hK hW hS cz34 hj dX5_ithMostStoodOn_40 (fun H locs hW hS => ?_)
          obtain ⟨M22, eM22⟩ : ∃ y, y = msI M3 3400 0 i2.toNatClampNeg v21 := ⟨_, rfl⟩
          replace h := nm_a eM22 h
          rw [← eM22] at hW
          obtain ⟨v23, ev23⟩ : ∃ y : Int32, y = i2 + (1 : Int32) := ⟨_, rfl⟩
          replace h := nm_a ev23 h
          refine lv_iinc (v := v23) (lv' := [(4, .int v23), (0, .ref (ad 5 0)), (1, .long x1), (3, .int x3)]) hx hb dX5_ithMostStoodOn_41 hl (k := 3) rfl (by rw [ev23]; rfl) (by decide) rfl (fun ls hl => ?_)
          refine lv_goto (tgt := 3) hx hb dX5_ithMostStoodOn_44 (by decide) ?_
          exact ih1 v23 M22 _ _ _ hW hS (lv_sub hl [1, 2, 3, 0] rfl) h
  exact L1 FU (0 : Int32) M0 _ _ _ hW hS (lv_sub hl [1, 2, 3, 0] rfl) h
def fX6_isPlace (x1 : Int32) : Int32 :=
  if x1 < 0 then ((0 : Int32)) else (if (6 : Int32) ≤ x1 then ((0 : Int32)) else ((1 : Int32)))
set_option maxHeartbeats 4000000 in
set_option maxRecDepth 100000 in
theorem mX6_isPlace {l : Launch} {D : va_G} {cy : Nat → ClassId} {A : Nat → Prop} {K : KC} {nS nL : Nat} {ad : Nat → Nat → Nat} (hZk : ZOK A (ZC A K)) (x1 : Int32) (M0 : Mem) (r : Int32) (h : fX6_isPlace x1 = r) : Met l yX6_isPlace (wt yX6_isPlace cX6_isPlace 2 (some .boolean)) (rm 0 0) (CPre D cy A (ZC A K) (cnC nS nL) ad M0 [.ref (ad 6 0), .int x1]) (QZ D cy A (cnC nS nL) ad r M0) 0 0 A := by
  refine tb_start [.ref (ad 6 0), .int x1] [(0, .ref (ad 6 0)), (1, .int x1)] RX6 rfl (by decide +kernel) (Nat.le_of_ble_eq_true rfl) rfl (fun p e s m args below meth c hx hb hr hml hown hts hlk hW hK hZ ls hl => ?_)
  have hS : va_S A s.heap s.heap [] := va_S.rf
  unfold fX6_isPlace at h
  refine lv_iload_n hx hb dX6_isPlace_0 rfl (lv_at hl 1 rfl) ?_
  refine lv_if_lt (tgt := 14) hx hb dX6_isPlace_1 (by decide) (fun c1 => ?_) (fun c1 => ?_)
  · replace h := sh_t c1 h
    refine lv_iconst (v := (0 : Int32)) hx hb dX6_isPlace_14 (by decide) ?_
    exact tb_zretP h hx hb hr hS hW hlk (by decide) dX6_isPlace_15
  · replace h := sh_f c1 h
    refine lv_iload_n hx hb dX6_isPlace_4 rfl (lv_at hl 1 rfl) ?_
    refine lv_bipush (v := (6 : Int32)) hx hb dX6_isPlace_5 (by decide) ?_
    refine lv_icmp_ge (tgt := 14) hx hb dX6_isPlace_7 (by decide) (fun c2 => ?_) (fun c2 => ?_)
    · replace h := sh_t c2 h
      refine lv_iconst (v := (0 : Int32)) hx hb dX6_isPlace_14 (by decide) ?_
      exact tb_zretP h hx hb hr hS hW hlk (by decide) dX6_isPlace_15
    · replace h := sh_f c2 h
      refine lv_iconst (v := (1 : Int32)) hx hb dX6_isPlace_10 (by decide) ?_
      refine lv_goto (tgt := 15) hx hb dX6_isPlace_11 (by decide) ?_
      exact tb_zretP h hx hb hr hS hW hlk (by decide) dX6_isPlace_15
def fX6_isEmpty (x1 : Int32) (M0 : Mem) : Option Int32 :=
  ix x1 6 <| if (mgI M0 3500 0 x1.toNatClampNeg) = (-1 : Int32) then (some (1 : Int32)) else (some (0 : Int32))
set_option maxHeartbeats 4000000 in
set_option maxRecDepth 100000 in
theorem mX6_isEmpty {l : Launch} {D : va_G} {cy : Nat → ClassId} {A : Nat → Prop} {K : KC} {nS nL : Nat} {ad : Nat → Nat → Nat} (hZk : ZOK A (ZC A K)) (x1 : Int32) (M0 : Mem) (r : Int32) (h : fX6_isEmpty x1 M0 = some r) : Met l yX6_isEmpty (wt yX6_isEmpty cX6_isEmpty 2 (some .boolean)) (rm 0 0) (CPre D cy A (ZC A K) (cnC nS nL) ad M0 [.ref (ad 6 0), .int x1]) (QZ D cy A (cnC nS nL) ad r M0) 0 0 A := by
  refine tb_start [.ref (ad 6 0), .int x1] [(0, .ref (ad 6 0)), (1, .int x1)] RX6 rfl (by decide +kernel) (Nat.le_of_ble_eq_true rfl) rfl (fun p e s m args below meth c hx hb hr hml hown hts hlk hW hK hZ ls hl => ?_)
  have hS : va_S A s.heap s.heap [] := va_S.rf
  unfold fX6_isEmpty at h
  refine lv_aload_n hx hb dX6_isEmpty_0 rfl (lv_at hl 0 rfl) ?_
  refine gtX6_11 hx hb hts hown hK hW cz6 dX6_isEmpty_1 ?_
  refine lv_iload_n hx hb dX6_isEmpty_4 rfl (lv_at hl 1 rfl) ?_
  replace h := ix_a h
  obtain ⟨hj, h⟩ := h
  refine al35 hx hb hK hW cz35 hj dX6_isEmpty_5 ?_
  refine lv_iconst (v := (-1 : Int32)) hx hb dX6_isEmpty_6 (by decide) ?_
  refine lv_icmp_ne (tgt := 14) hx hb dX6_isEmpty_7 (by decide) (fun c1 => ?_) (fun c1 => ?_)
  · replace h := sh_f c1 h
    refine lv_iconst (v := (0 : Int32)) hx hb dX6_isEmpty_14 (by decide) ?_
    exact tb_zretO h hx hb hr hS hW hlk (by decide) dX6_isEmpty_15
  · replace h := sh_t c1 h
    refine lv_iconst (v := (1 : Int32)) hx hb dX6_isEmpty_10 (by decide) ?_
    refine lv_goto (tgt := 15) hx hb dX6_isEmpty_11 (by decide) ?_
    exact tb_zretO h hx hb hr hS hW hlk (by decide) dX6_isEmpty_15
def fX6_isRow (x1 : Int32) (M0 : Mem) : Option Int32 :=
  ix x1 6 <| if (mgI M0 3500 0 x1.toNatClampNeg) < 0 then (some (0 : Int32)) else (ix x1 6 <| if (4 : Int32) < (mgI M0 3500 0 x1.toNatClampNeg) then (some (0 : Int32)) else (some (1 : Int32)))
set_option maxHeartbeats 4000000 in
set_option maxRecDepth 100000 in
theorem mX6_isRow {l : Launch} {D : va_G} {cy : Nat → ClassId} {A : Nat → Prop} {K : KC} {nS nL : Nat} {ad : Nat → Nat → Nat} (hZk : ZOK A (ZC A K)) (x1 : Int32) (M0 : Mem) (r : Int32) (h : fX6_isRow x1 M0 = some r) : Met l yX6_isRow (wt yX6_isRow cX6_isRow 2 (some .boolean)) (rm 0 0) (CPre D cy A (ZC A K) (cnC nS nL) ad M0 [.ref (ad 6 0), .int x1]) (QZ D cy A (cnC nS nL) ad r M0) 0 0 A := by
  refine tb_start [.ref (ad 6 0), .int x1] [(0, .ref (ad 6 0)), (1, .int x1)] RX6 rfl (by decide +kernel) (Nat.le_of_ble_eq_true rfl) rfl (fun p e s m args below meth c hx hb hr hml hown hts hlk hW hK hZ ls hl => ?_)
  have hS : va_S A s.heap s.heap [] := va_S.rf
  unfold fX6_isRow at h
  refine lv_aload_n hx hb dX6_isRow_0 rfl (lv_at hl 0 rfl) ?_
  refine gtX6_11 hx hb hts hown hK hW cz6 dX6_isRow_1 ?_
  refine lv_iload_n hx hb dX6_isRow_4 rfl (lv_at hl 1 rfl) ?_
  replace h := ix_a h
  obtain ⟨hj, h⟩ := h
  refine al35 hx hb hK hW cz35 hj dX6_isRow_5 ?_
  refine lv_if_lt (tgt := 23) hx hb dX6_isRow_6 (by decide) (fun c1 => ?_) (fun c1 => ?_)
  · replace h := sh_t c1 h
    refine lv_iconst (v := (0 : Int32)) hx hb dX6_isRow_23 (by decide) ?_
    exact tb_zretO h hx hb hr hS hW hlk (by decide) dX6_isRow_24
  · replace h := sh_f c1 h
    refine lv_aload_n hx hb dX6_isRow_9 rfl (lv_at hl 0 rfl) ?_
    refine gtX6_11 hx hb hts hown hK hW cz6 dX6_isRow_10 ?_
    refine lv_iload_n hx hb dX6_isRow_13 rfl (lv_at hl 1 rfl) ?_
    replace h := ix_a h
    obtain ⟨hj, h⟩ := h
    refine al35 hx hb hK hW cz35 hj dX6_isRow_14 ?_
    refine lv_iconst (v := (4 : Int32)) hx hb dX6_isRow_15 (by decide) ?_
    refine lv_icmp_gt (tgt := 23) hx hb dX6_isRow_16 (by decide) (fun c2 => ?_) (fun c2 => ?_)
    · replace h := sh_t c2 h
      refine lv_iconst (v := (0 : Int32)) hx hb dX6_isRow_23 (by decide) ?_
      exact tb_zretO h hx hb hr hS hW hlk (by decide) dX6_isRow_24
    · replace h := sh_f c2 h
      refine lv_iconst (v := (1 : Int32)) hx hb dX6_isRow_19 (by decide) ?_
      refine lv_goto (tgt := 24) hx hb dX6_isRow_20 (by decide) ?_
      exact tb_zretO h hx hb hr hS hW hlk (by decide) dX6_isRow_24
def fX6_isRowOf (x1 : Int32) (x2 : Int32) (M0 : Mem) : Option Int32 :=
  ix x1 6 <| if (mgI M0 3500 0 x1.toNatClampNeg) = x2 then (some (1 : Int32)) else (some (0 : Int32))
set_option maxHeartbeats 4000000 in
set_option maxRecDepth 100000 in
theorem mX6_isRowOf {l : Launch} {D : va_G} {cy : Nat → ClassId} {A : Nat → Prop} {K : KC} {nS nL : Nat} {ad : Nat → Nat → Nat} (hZk : ZOK A (ZC A K)) (x1 : Int32) (x2 : Int32) (M0 : Mem) (r : Int32) (h : fX6_isRowOf x1 x2 M0 = some r) : Met l yX6_isRowOf (wt yX6_isRowOf cX6_isRowOf 3 (some .boolean)) (rm 0 0) (CPre D cy A (ZC A K) (cnC nS nL) ad M0 [.ref (ad 6 0), .int x1, .int x2]) (QZ D cy A (cnC nS nL) ad r M0) 0 0 A := by
  refine tb_start [.ref (ad 6 0), .int x1, .int x2] [(0, .ref (ad 6 0)), (1, .int x1), (2, .int x2)] RX6 rfl (by decide +kernel) (Nat.le_of_ble_eq_true rfl) rfl (fun p e s m args below meth c hx hb hr hml hown hts hlk hW hK hZ ls hl => ?_)
  have hS : va_S A s.heap s.heap [] := va_S.rf
  unfold fX6_isRowOf at h
  refine lv_aload_n hx hb dX6_isRowOf_0 rfl (lv_at hl 0 rfl) ?_
  refine gtX6_11 hx hb hts hown hK hW cz6 dX6_isRowOf_1 ?_
  refine lv_iload_n hx hb dX6_isRowOf_4 rfl (lv_at hl 1 rfl) ?_
  replace h := ix_a h
  obtain ⟨hj, h⟩ := h
  refine al35 hx hb hK hW cz35 hj dX6_isRowOf_5 ?_
  refine lv_iload_n hx hb dX6_isRowOf_6 rfl (lv_at hl 2 rfl) ?_
  refine lv_icmp_ne (tgt := 14) hx hb dX6_isRowOf_7 (by decide) (fun c1 => ?_) (fun c1 => ?_)
  · replace h := sh_f c1 h
    refine lv_iconst (v := (0 : Int32)) hx hb dX6_isRowOf_14 (by decide) ?_
    exact tb_zretO h hx hb hr hS hW hlk (by decide) dX6_isRowOf_15
  · replace h := sh_t c1 h
    refine lv_iconst (v := (1 : Int32)) hx hb dX6_isRowOf_10 (by decide) ?_
    refine lv_goto (tgt := 15) hx hb dX6_isRowOf_11 (by decide) ?_
    exact tb_zretO h hx hb hr hS hW hlk (by decide) dX6_isRowOf_15
def fX6_areAlike (x1 : Int32) (x2 : Int32) (M0 : Mem) : Option Int32 :=
  ix x1 6 <| ix x2 6 <| if (mgI M0 3500 0 x1.toNatClampNeg) = (mgI M0 3500 0 x2.toNatClampNeg) then (some (1 : Int32)) else (some (0 : Int32))
set_option maxHeartbeats 4000000 in
set_option maxRecDepth 100000 in
theorem mX6_areAlike {l : Launch} {D : va_G} {cy : Nat → ClassId} {A : Nat → Prop} {K : KC} {nS nL : Nat} {ad : Nat → Nat → Nat} (hZk : ZOK A (ZC A K)) (x1 : Int32) (x2 : Int32) (M0 : Mem) (r : Int32) (h : fX6_areAlike x1 x2 M0 = some r) : Met l yX6_areAlike (wt yX6_areAlike cX6_areAlike 3 (some .boolean)) (rm 0 0) (CPre D cy A (ZC A K) (cnC nS nL) ad M0 [.ref (ad 6 0), .int x1, .int x2]) (QZ D cy A (cnC nS nL) ad r M0) 0 0 A := by
  refine tb_start [.ref (ad 6 0), .int x1, .int x2] [(0, .ref (ad 6 0)), (1, .int x1), (2, .int x2)] RX6 rfl (by decide +kernel) (Nat.le_of_ble_eq_true rfl) rfl (fun p e s m args below meth c hx hb hr hml hown hts hlk hW hK hZ ls hl => ?_)
  have hS : va_S A s.heap s.heap [] := va_S.rf
  unfold fX6_areAlike at h
  refine lv_aload_n hx hb dX6_areAlike_0 rfl (lv_at hl 0 rfl) ?_
  refine gtX6_11 hx hb hts hown hK hW cz6 dX6_areAlike_1 ?_
  refine lv_iload_n hx hb dX6_areAlike_4 rfl (lv_at hl 1 rfl) ?_
  replace h := ix_a h
  obtain ⟨hj, h⟩ := h
  refine al35 hx hb hK hW cz35 hj dX6_areAlike_5 ?_
  refine lv_aload_n hx hb dX6_areAlike_6 rfl (lv_at hl 0 rfl) ?_
  refine gtX6_11 hx hb hts hown hK hW cz6 dX6_areAlike_7 ?_
  refine lv_iload_n hx hb dX6_areAlike_10 rfl (lv_at hl 2 rfl) ?_
  replace h := ix_a h
  obtain ⟨hj, h⟩ := h
  refine al35 hx hb hK hW cz35 hj dX6_areAlike_11 ?_
  refine lv_icmp_ne (tgt := 19) hx hb dX6_areAlike_12 (by decide) (fun c1 => ?_) (fun c1 => ?_)
  · replace h := sh_f c1 h
    refine lv_iconst (v := (0 : Int32)) hx hb dX6_areAlike_19 (by decide) ?_
    exact tb_zretO h hx hb hr hS hW hlk (by decide) dX6_areAlike_20
  · replace h := sh_t c1 h
    refine lv_iconst (v := (1 : Int32)) hx hb dX6_areAlike_15 (by decide) ?_
    refine lv_goto (tgt := 20) hx hb dX6_areAlike_16 (by decide) ?_
    exact tb_zretO h hx hb hr hS hW hlk (by decide) dX6_areAlike_20
def fX6_hasElement (x1 : Int32) (x2 : Int32) (M0 : Mem) : Option Int32 :=
  bd (fX6_isRow x1 M0) fun b1 => if b1 = 0 then (some (0 : Int32)) else (if x2 < 0 then (some (0 : Int32)) else (ix x1 6 <| if (mgI M0 3600 0 x1.toNatClampNeg) ≤ x2 then (some (0 : Int32)) else (some (1 : Int32))))
set_option maxHeartbeats 4000000 in
set_option maxRecDepth 100000 in
theorem mX6_hasElement {l : Launch} {D : va_G} {cy : Nat → ClassId} {A : Nat → Prop} {K : KC} {nS nL : Nat} {ad : Nat → Nat → Nat} (hZk : ZOK A (ZC A K)) (x1 : Int32) (x2 : Int32) (M0 : Mem) (r : Int32) (h : fX6_hasElement x1 x2 M0 = some r) : Met l yX6_hasElement (wt yX6_hasElement cX6_hasElement 3 (some .boolean)) (rm 1 21) (CPre D cy A (ZC A K) (cnC nS nL) ad M0 [.ref (ad 6 0), .int x1, .int x2]) (QZ D cy A (cnC nS nL) ad r M0) 0 0 A := by
  refine tb_start [.ref (ad 6 0), .int x1, .int x2] [(0, .ref (ad 6 0)), (1, .int x1), (2, .int x2)] RX6 rfl (by decide +kernel) (Nat.le_of_ble_eq_true rfl) rfl (fun p e s m args below meth c hx hb hr hml hown hts hlk hW hK hZ ls hl => ?_)
  have hS : va_S A s.heap s.heap [] := va_S.rf
  unfold fX6_hasElement at h
  refine lv_aload_n hx hb dX6_hasElement_0 rfl (lv_at hl 0 rfl) ?_
  refine lv_iload_n hx hb dX6_hasElement_1 rfl (lv_at hl 1 rfl) ?_
  replace h := bd_a h
  obtain ⟨b1, hcb1, h⟩ := h
  refine tb_cVZ hZk hx hb hml hown hts hK hZ hW hS [.int x1] (mX6_isRow (l := l) hZk x1 M0 b1 hcb1) pmX6_isRow tw596 (Wd.recv hK hW (t := 6) (by decide) cz6 (C := RX6) (T := TX6) (N := 4) rfl) ⟨Nat.le_of_ble_eq_true rfl, Nat.le_of_ble_eq_true rfl⟩ rfl hl.1 (Nat.le_of_ble_eq_true rfl) ⟨Nat.le_refl _, Nat.le_refl _⟩ rfl dX6_hasElement_2 (fun H locs hW hS hzz => ?_)
  have hzb1 := hzz
  refine lv_if_eq (tgt := 26) hx hb dX6_hasElement_5 (by decide) (fun c2 => ?_) (fun c2 => ?_)
  · replace h := sh_t c2 h
    refine lv_iconst (v := (0 : Int32)) hx hb dX6_hasElement_26 (by decide) ?_
    exact tb_zretO h hx hb hr hS hW hlk (by decide) dX6_hasElement_27
  · replace h := sh_f c2 h
    refine lv_iload_n hx hb dX6_hasElement_8 rfl (lv_at hl 2 rfl) ?_
    refine lv_if_lt (tgt := 26) hx hb dX6_hasElement_9 (by decide) (fun c3 => ?_) (fun c3 => ?_)
    · replace h := sh_t c3 h
      refine lv_iconst (v := (0 : Int32)) hx hb dX6_hasElement_26 (by decide) ?_
      exact tb_zretO h hx hb hr hS hW hlk (by decide) dX6_hasElement_27
    · replace h := sh_f c3 h
      refine lv_iload_n hx hb dX6_hasElement_12 rfl (lv_at hl 2 rfl) ?_
      refine lv_aload_n hx hb dX6_hasElement_13 rfl (lv_at hl 0 rfl) ?_
      refine gtX6_15 hx hb hts hown hK hW cz6 dX6_hasElement_14 ?_
      refine lv_iload_n hx hb dX6_hasElement_17 rfl (lv_at hl 1 rfl) ?_
      replace h := ix_a h
      obtain ⟨hj, h⟩ := h
      refine al36 hx hb hK hW cz36 hj dX6_hasElement_18 ?_
      refine lv_icmp_ge (tgt := 26) hx hb dX6_hasElement_19 (by decide) (fun c4 => ?_) (fun c4 => ?_)
      · replace h := sh_t c4 h
        refine lv_iconst (v := (0 : Int32)) hx hb dX6_hasElement_26 (by decide) ?_
        exact tb_zretO h hx hb hr hS hW hlk (by decide) dX6_hasElement_27
      · replace h := sh_f c4 h
        refine lv_iconst (v := (1 : Int32)) hx hb dX6_hasElement_22 (by decide) ?_
        refine lv_goto (tgt := 27) hx hb dX6_hasElement_23 (by decide) ?_
        exact tb_zretO h hx hb hr hS hW hlk (by decide) dX6_hasElement_27
def fX6_hasRange (x1 : Int32) (x2 : Int32) (x3 : Int32) (M0 : Mem) : Option Int32 :=
  if x2 < 0 then (some (0 : Int32)) else (if x3 < 0 then (some (0 : Int32)) else (ix x1 6 <| if (mgI M0 3600 0 x1.toNatClampNeg) < x2 then (some (0 : Int32)) else (ix x1 6 <| if ((mgI M0 3600 0 x1.toNatClampNeg) - x2) < x3 then (some (0 : Int32)) else (some (1 : Int32)))))
set_option maxHeartbeats 4000000 in
set_option maxRecDepth 100000 in
theorem mX6_hasRange {l : Launch} {D : va_G} {cy : Nat → ClassId} {A : Nat → Prop} {K : KC} {nS nL : Nat} {ad : Nat → Nat → Nat} (hZk : ZOK A (ZC A K)) (x1 : Int32) (x2 : Int32) (x3 : Int32) (M0 : Mem) (r : Int32) (h : fX6_hasRange x1 x2 x3 M0 = some r) : Met l yX6_hasRange (wt yX6_hasRange cX6_hasRange 4 (some .boolean)) (rm 0 0) (CPre D cy A (ZC A K) (cnC nS nL) ad M0 [.ref (ad 6 0), .int x1, .int x2, .int x3]) (QZ D cy A (cnC nS nL) ad r M0) 0 0 A := by
  refine tb_start [.ref (ad 6 0), .int x1, .int x2, .int x3] [(0, .ref (ad 6 0)), (1, .int x1), (2, .int x2), (3, .int x3)] RX6 rfl (by decide +kernel) (Nat.le_of_ble_eq_true rfl) rfl (fun p e s m args below meth c hx hb hr hml hown hts hlk hW hK hZ ls hl => ?_)
  have hS : va_S A s.heap s.heap [] := va_S.rf
  unfold fX6_hasRange at h
  refine lv_iload_n hx hb dX6_hasRange_0 rfl (lv_at hl 2 rfl) ?_
  refine lv_if_lt (tgt := 34) hx hb dX6_hasRange_1 (by decide) (fun c1 => ?_) (fun c1 => ?_)
  · replace h := sh_t c1 h
    refine lv_iconst (v := (0 : Int32)) hx hb dX6_hasRange_34 (by decide) ?_
    exact tb_zretO h hx hb hr hS hW hlk (by decide) dX6_hasRange_35
  · replace h := sh_f c1 h
    refine lv_iload_n hx hb dX6_hasRange_4 rfl (lv_at hl 3 rfl) ?_
    refine lv_if_lt (tgt := 34) hx hb dX6_hasRange_5 (by decide) (fun c2 => ?_) (fun c2 => ?_)
    · replace h := sh_t c2 h
      refine lv_iconst (v := (0 : Int32)) hx hb dX6_hasRange_34 (by decide) ?_
      exact tb_zretO h hx hb hr hS hW hlk (by decide) dX6_hasRange_35
    · replace h := sh_f c2 h
      refine lv_iload_n hx hb dX6_hasRange_8 rfl (lv_at hl 2 rfl) ?_
      refine lv_aload_n hx hb dX6_hasRange_9 rfl (lv_at hl 0 rfl) ?_
      refine gtX6_15 hx hb hts hown hK hW cz6 dX6_hasRange_10 ?_
      refine lv_iload_n hx hb dX6_hasRange_13 rfl (lv_at hl 1 rfl) ?_
      replace h := ix_a h
      obtain ⟨hj, h⟩ := h
      refine al36 hx hb hK hW cz36 hj dX6_hasRange_14 ?_
      refine lv_icmp_gt (tgt := 34) hx hb dX6_hasRange_15 (by decide) (fun c3 => ?_) (fun c3 => ?_)
      · replace h := sh_t c3 h
        refine lv_iconst (v := (0 : Int32)) hx hb dX6_hasRange_34 (by decide) ?_
        exact tb_zretO h hx hb hr hS hW hlk (by decide) dX6_hasRange_35
      · replace h := sh_f c3 h
        refine lv_iload_n hx hb dX6_hasRange_18 rfl (lv_at hl 3 rfl) ?_
        refine lv_aload_n hx hb dX6_hasRange_19 rfl (lv_at hl 0 rfl) ?_
        refine gtX6_15 hx hb hts hown hK hW cz6 dX6_hasRange_20 ?_
        refine lv_iload_n hx hb dX6_hasRange_23 rfl (lv_at hl 1 rfl) ?_
        replace h := ix_a h
        obtain ⟨hj, h⟩ := h
        refine al36 hx hb hK hW cz36 hj dX6_hasRange_24 ?_
        refine lv_iload_n hx hb dX6_hasRange_25 rfl (lv_at hl 2 rfl) ?_
        refine lv_isub hx hb dX6_hasRange_26 ?_
        refine lv_icmp_gt (tgt := 34) hx hb dX6_hasRange_27 (by decide) (fun c4 => ?_) (fun c4 => ?_)
        · replace h := sh_t c4 h
          refine lv_iconst (v := (0 : Int32)) hx hb dX6_hasRange_34 (by decide) ?_
          exact tb_zretO h hx hb hr hS hW hlk (by decide) dX6_hasRange_35
        · replace h := sh_f c4 h
          refine lv_iconst (v := (1 : Int32)) hx hb dX6_hasRange_30 (by decide) ?_
          refine lv_goto (tgt := 35) hx hb dX6_hasRange_31 (by decide) ?_
          exact tb_zretO h hx hb hr hS hW hlk (by decide) dX6_hasRange_35
def fX6_stoneIn (x1 : Int32) (M0 : Mem) : Option Int32 :=
  ix x1 6 <| if (mgI M0 3500 0 x1.toNatClampNeg) = (5 : Int32) then (ix x1 6 <| some (mgI M0 3700 0 x1.toNatClampNeg)) else (some (-1 : Int32))
set_option maxHeartbeats 4000000 in
set_option maxRecDepth 100000 in
theorem mX6_stoneIn {l : Launch} {D : va_G} {cy : Nat → ClassId} {A : Nat → Prop} {K : KC} {nS nL : Nat} {ad : Nat → Nat → Nat} (hZk : ZOK A (ZC A K)) (x1 : Int32) (M0 : Mem) (r : Int32) (h : fX6_stoneIn x1 M0 = some r) : Met l yX6_stoneIn (wt yX6_stoneIn cX6_stoneIn 2 (some .int)) (rm 0 0) (CPre D cy A (ZC A K) (cnC nS nL) ad M0 [.ref (ad 6 0), .int x1]) (QI D cy A (cnC nS nL) ad r M0) 0 0 A := by
  refine tb_start [.ref (ad 6 0), .int x1] [(0, .ref (ad 6 0)), (1, .int x1)] RX6 rfl (by decide +kernel) (Nat.le_of_ble_eq_true rfl) rfl (fun p e s m args below meth c hx hb hr hml hown hts hlk hW hK hZ ls hl => ?_)
  have hS : va_S A s.heap s.heap [] := va_S.rf
  unfold fX6_stoneIn at h
  refine lv_aload_n hx hb dX6_stoneIn_0 rfl (lv_at hl 0 rfl) ?_
  refine gtX6_11 hx hb hts hown hK hW cz6 dX6_stoneIn_1 ?_
  refine lv_iload_n hx hb dX6_stoneIn_4 rfl (lv_at hl 1 rfl) ?_
  replace h := ix_a h
  obtain ⟨hj, h⟩ := h
  refine al35 hx hb hK hW cz35 hj dX6_stoneIn_5 ?_
  refine lv_iconst (v := (5 : Int32)) hx hb dX6_stoneIn_6 (by decide) ?_
  refine lv_icmp_ne (tgt := 19) hx hb dX6_stoneIn_7 (by decide) (fun c1 => ?_) (fun c1 => ?_)
  · replace h := sh_f c1 h
    refine lv_iconst (v := (-1 : Int32)) hx hb dX6_stoneIn_19 (by decide) ?_
    exact tb_iretO h hx hb hr hS hW hlk dX6_stoneIn_20
  · replace h := sh_t c1 h
    refine lv_aload_n hx hb dX6_stoneIn_10 rfl (lv_at hl 0 rfl) ?_
    refine gtX6_18 hx hb hts hown hK hW cz6 dX6_stoneIn_11 ?_
    refine lv_iload_n hx hb dX6_stoneIn_14 rfl (lv_at hl 1 rfl) ?_
    replace h := ix_a h
    obtain ⟨hj, h⟩ := h
    refine al37 hx hb hK hW cz37 hj dX6_stoneIn_15 ?_
    refine lv_goto (tgt := 20) hx hb dX6_stoneIn_16 (by decide) ?_
    exact tb_iretO h hx hb hr hS hW hlk dX6_stoneIn_20
def fX6_holdStone (x1 : Int32) (x2 : Int32) (M0 : Mem) : Option (Unit × Mem) :=
  if 0 ≤ x2 then (ix x1 6 <| nm (msI M0 3500 0 x1.toNatClampNeg (5 : Int32)) fun M2 => ix x1 6 <| nm (msI M2 3700 0 x1.toNatClampNeg x2) fun M3 => ix x1 6 <| nm (msI M3 3600 0 x1.toNatClampNeg (0 : Int32)) fun M4 => some ((), M4)) else (ix x1 6 <| nm (msI M0 3500 0 x1.toNatClampNeg (-1 : Int32)) fun M5 => ix x1 6 <| nm (msI M5 3700 0 x1.toNatClampNeg x2) fun M6 => ix x1 6 <| nm (msI M6 3600 0 x1.toNatClampNeg (0 : Int32)) fun M7 => some ((), M7))
set_option maxHeartbeats 4000000 in
set_option maxRecDepth 100000 in
theorem mX6_holdStone {l : Launch} {D : va_G} {cy : Nat → ClassId} {A : Nat → Prop} {K : KC} {nS nL : Nat} {ad : Nat → Nat → Nat} (hZk : ZOK A (ZC A K)) (x1 : Int32) (x2 : Int32) (M0 : Mem) (r : Unit) (M' : Mem) (h : fX6_holdStone x1 x2 M0 = some (r, M')) : Met l yX6_holdStone (wt yX6_holdStone cX6_holdStone 3 none) (rm 0 0) (CPre D cy A (ZC A K) (cnC nS nL) ad M0 [.ref (ad 6 0), .int x1, .int x2]) (QV D cy A (cnC nS nL) ad r M') 0 0 A := by
  refine tb_start [.ref (ad 6 0), .int x1, .int x2] [(0, .ref (ad 6 0)), (1, .int x1), (2, .int x2)] RX6 rfl (by decide +kernel) (Nat.le_of_ble_eq_true rfl) rfl (fun p e s m args below meth c hx hb hr hml hown hts hlk hW hK hZ ls hl => ?_)
  have hS : va_S A s.heap s.heap [] := va_S.rf
  unfold fX6_holdStone at h
  refine lv_aload_n hx hb dX6_holdStone_0 rfl (lv_at hl 0 rfl) ?_
  refine gtX6_11 hx hb hts hown hK hW cz6 dX6_holdStone_1 ?_
  refine lv_iload_n hx hb dX6_holdStone_4 rfl (lv_at hl 1 rfl) ?_
  refine lv_iload_n hx hb dX6_holdStone_5 rfl (lv_at hl 2 rfl) ?_
  refine lv_if_ge (tgt := 13) hx hb dX6_holdStone_6 (by decide) (fun c1 => ?_) (fun c1 => ?_)
  · replace h := sh_t c1 h
    refine lv_iconst (v := (5 : Int32)) hx hb dX6_holdStone_13 (by decide) ?_
    replace h := ix_a h
    obtain ⟨hj, h⟩ := h
    refine as35 hx hb hK hW hS cz35 hj dX6_holdStone_14 (fun H locs hW hS => ?_)
    obtain ⟨M2, eM2⟩ : ∃ y, y = msI M0 3500 0 x1.toNatClampNeg (5 : Int32) := ⟨_, rfl⟩
    replace h := nm_a eM2 h
    rw [← eM2] at hW
    refine lv_aload_n hx hb dX6_holdStone_15 rfl (lv_at hl 0 rfl) ?_
    refine gtX6_18 hx hb hts hown hK hW cz6 dX6_holdStone_16 ?_
    refine lv_iload_n hx hb dX6_holdStone_19 rfl (lv_at hl 1 rfl) ?_
    refine lv_iload_n hx hb dX6_holdStone_20 rfl (lv_at hl 2 rfl) ?_
    replace h := ix_a h
    obtain ⟨hj, h⟩ := h
    refine as37 hx hb hK hW hS cz37 hj dX6_holdStone_21 (fun H locs hW hS => ?_)
    obtain ⟨M3, eM3⟩ : ∃ y, y = msI M2 3700 0 x1.toNatClampNeg x2 := ⟨_, rfl⟩
    replace h := nm_a eM3 h
    rw [← eM3] at hW
    refine lv_aload_n hx hb dX6_holdStone_22 rfl (lv_at hl 0 rfl) ?_
    refine gtX6_15 hx hb hts hown hK hW cz6 dX6_holdStone_23 ?_
    refine lv_iload_n hx hb dX6_holdStone_26 rfl (lv_at hl 1 rfl) ?_
    refine lv_iconst (v := (0 : Int32)) hx hb dX6_holdStone_27 (by decide) ?_
    replace h := ix_a h
    obtain ⟨hj, h⟩ := h
    refine as36 hx hb hK hW hS cz36 hj dX6_holdStone_28 (fun H locs hW hS => ?_)
    obtain ⟨M4, eM4⟩ : ∃ y, y = msI M3 3600 0 x1.toNatClampNeg (0 : Int32) := ⟨_, rfl⟩
    replace h := nm_a eM4 h
    rw [← eM4] at hW
    exact tb_vretE h hx hb hr hS hW hlk dX6_holdStone_29
  · replace h := sh_f c1 h
    refine lv_iconst (v := (-1 : Int32)) hx hb dX6_holdStone_9 (by decide) ?_
    refine lv_goto (tgt := 14) hx hb dX6_holdStone_10 (by decide) ?_
    replace h := ix_a h
    obtain ⟨hj, h⟩ := h
    refine as35 hx hb hK hW hS cz35 hj dX6_holdStone_14 (fun H locs hW hS => ?_)
    obtain ⟨M5, eM5⟩ : ∃ y, y = msI M0 3500 0 x1.toNatClampNeg (-1 : Int32) := ⟨_, rfl⟩
    replace h := nm_a eM5 h
    rw [← eM5] at hW
    refine lv_aload_n hx hb dX6_holdStone_15 rfl (lv_at hl 0 rfl) ?_
    refine gtX6_18 hx hb hts hown hK hW cz6 dX6_holdStone_16 ?_
    refine lv_iload_n hx hb dX6_holdStone_19 rfl (lv_at hl 1 rfl) ?_
    refine lv_iload_n hx hb dX6_holdStone_20 rfl (lv_at hl 2 rfl) ?_
    replace h := ix_a h
    obtain ⟨hj, h⟩ := h
    refine as37 hx hb hK hW hS cz37 hj dX6_holdStone_21 (fun H locs hW hS => ?_)
    obtain ⟨M6, eM6⟩ : ∃ y, y = msI M5 3700 0 x1.toNatClampNeg x2 := ⟨_, rfl⟩
    replace h := nm_a eM6 h
    rw [← eM6] at hW
    refine lv_aload_n hx hb dX6_holdStone_22 rfl (lv_at hl 0 rfl) ?_
    refine gtX6_15 hx hb hts hown hK hW cz6 dX6_holdStone_23 ?_
    refine lv_iload_n hx hb dX6_holdStone_26 rfl (lv_at hl 1 rfl) ?_
    refine lv_iconst (v := (0 : Int32)) hx hb dX6_holdStone_27 (by decide) ?_
    replace h := ix_a h
    obtain ⟨hj, h⟩ := h
    refine as36 hx hb hK hW hS cz36 hj dX6_holdStone_28 (fun H locs hW hS => ?_)
    obtain ⟨M7, eM7⟩ : ∃ y, y = msI M6 3600 0 x1.toNatClampNeg (0 : Int32) := ⟨_, rfl⟩
    replace h := nm_a eM7 h
    rw [← eM7] at hW
    exact tb_vretE h hx hb hr hS hW hlk dX6_holdStone_29
def fX6_holdRow_b17 (x1 : Int32) (k3 : Int32 → Mem → Option (Unit × Mem)) (i4 : Int32) (M5 : Mem) : Option (Unit × Mem) :=
  if (60 : Int32) ≤ i4 then (some ((), M5)) else (ix ((x1 * (60 : Int32)) + i4) 360 <| nm (msL M5 3800 0 (((x1 * (60 : Int32)) + i4).toNatClampNeg) (0 : Int64)) fun M7 => nm (i4 + (1 : Int32)) fun v8 => k3 v8 M7)
def fX6_holdRow_l17 (x1 : Int32) : Nat → Int32 → Mem → Option (Unit × Mem)
  | 0, _, _ => none
  | n + 1, i4, M5 => fX6_holdRow_b17 x1 (fX6_holdRow_l17 x1 n) i4 M5
def fX6_holdRow (x1 : Int32) (x2 : Int32) (x3 : Int32) (M0 : Mem) : Option (Unit × Mem) :=
  ix x1 6 <| nm (msI M0 3500 0 x1.toNatClampNeg x2) fun M1 => ix x1 6 <| nm (msI M1 3600 0 x1.toNatClampNeg x3) fun M2 => fX6_holdRow_l17 x1 FU (0 : Int32) M2
set_option maxHeartbeats 4000000 in
set_option maxRecDepth 100000 in
theorem mX6_holdRow {l : Launch} {D : va_G} {cy : Nat → ClassId} {A : Nat → Prop} {K : KC} {nS nL : Nat} {ad : Nat → Nat → Nat} (hZk : ZOK A (ZC A K)) (x1 : Int32) (x2 : Int32) (x3 : Int32) (M0 : Mem) (r : Unit) (M' : Mem) (h : fX6_holdRow x1 x2 x3 M0 = some (r, M')) : Met l yX6_holdRow (wt yX6_holdRow cX6_holdRow 5 none) (rm 0 0) (CPre D cy A (ZC A K) (cnC nS nL) ad M0 [.ref (ad 6 0), .int x1, .int x2, .int x3]) (QV D cy A (cnC nS nL) ad r M') 0 0 A := by
  refine tb_start [.ref (ad 6 0), .int x1, .int x2, .int x3] [(0, .ref (ad 6 0)), (1, .int x1), (2, .int x2), (3, .int x3)] RX6 rfl (by decide +kernel) (Nat.le_of_ble_eq_true rfl) rfl (fun p e s m args below meth c hx hb hr hml hown hts hlk hW hK hZ ls hl => ?_)
  have hS : va_S A s.heap s.heap [] := va_S.rf
  unfold fX6_holdRow at h
  refine lv_aload_n hx hb dX6_holdRow_0 rfl (lv_at hl 0 rfl) ?_
  refine gtX6_11 hx hb hts hown hK hW cz6 dX6_holdRow_1 ?_
  refine lv_iload_n hx hb dX6_holdRow_4 rfl (lv_at hl 1 rfl) ?_
  refine lv_iload_n hx hb dX6_holdRow_5 rfl (lv_at hl 2 rfl) ?_
  replace h := ix_a h
  obtain ⟨hj, h⟩ := h
  refine as35 hx hb hK hW hS cz35 hj dX6_holdRow_6 (fun H locs hW hS => ?_)
  obtain ⟨M1, eM1⟩ : ∃ y, y = msI M0 3500 0 x1.toNatClampNeg x2 := ⟨_, rfl⟩
  replace h := nm_a eM1 h
  rw [← eM1] at hW
  refine lv_aload_n hx hb dX6_holdRow_7 rfl (lv_at hl 0 rfl) ?_
  refine gtX6_15 hx hb hts hown hK hW cz6 dX6_holdRow_8 ?_
  refine lv_iload_n hx hb dX6_holdRow_11 rfl (lv_at hl 1 rfl) ?_
  refine lv_iload_n hx hb dX6_holdRow_12 rfl (lv_at hl 3 rfl) ?_
  replace h := ix_a h
  obtain ⟨hj, h⟩ := h
  refine as36 hx hb hK hW hS cz36 hj dX6_holdRow_13 (fun H locs hW hS => ?_)
  obtain ⟨M2, eM2⟩ : ∃ y, y = msI M1 3600 0 x1.toNatClampNeg x3 := ⟨_, rfl⟩
  replace h := nm_a eM2 h
  rw [← eM2] at hW
  refine lv_iconst (v := (0 : Int32)) hx hb dX6_holdRow_14 (by decide) ?_
  refine lv_istore (lv' := [(4, .int (0 : Int32)), (0, .ref (ad 6 0)), (1, .int x1), (2, .int x2), (3, .int x3)]) hx hb dX6_holdRow_15 hl (by decide) rfl (fun ls hl => ?_)
  have L3 : ∀ (n3 : Nat) (i4 : Int32) (M5 : Mem) (H : Heap) (locs : List Loc) (ls : Array Slot), Wd D cy A (cnC nS nL) ad M5 H → va_S A s.heap H locs → lv_has ls 5 [(0, .ref (ad 6 0)), (1, .int x1), (4, .int i4)] → fX6_holdRow_l17 x1 n3 i4 M5 = some (r, M') → W p l e (rm 0 0) s m args below meth c H locs 0 0 (MQ below (QV D cy A (cnC nS nL) ad r M') args s 0 0 A) (F0 m 17 ls []) := by
    intro n3
    induction n3 with
    | zero => intro i4 M5 H locs ls hW hS hl h; cases h
    | succ n3 ih3 =>
      intro i4 M5 H locs ls hW hS hl h
      unfold fX6_holdRow_l17 fX6_holdRow_b17 at h
      refine lv_iload hx hb dX6_holdRow_17 (lv_at hl 2 rfl) ?_
      refine lv_bipush (v := (60 : Int32)) hx hb dX6_holdRow_19 (by decide) ?_
      refine lv_icmp_ge (tgt := 43) hx hb dX6_holdRow_21 (by decide) (fun c6 => ?_) (fun c6 => ?_)
      · replace h := sh_t c6 h
        exact tb_vretE h hx hb hr hS hW hlk dX6_holdRow_43
      · replace h := sh_f c6 h
        refine lv_aload_n hx hb dX6_holdRow_24 rfl (lv_at hl 0 rfl) ?_
        refine gtX6_21 hx hb hts hown hK hW cz6 dX6_holdRow_25 ?_
        refine lv_iload_n hx hb dX6_holdRow_28 rfl (lv_at hl 1 rfl) ?_
        refine lv_bipush (v := (60 : Int32)) hx hb dX6_holdRow_29 (by decide) ?_
        refine lv_imul hx hb dX6_holdRow_31 ?_
        refine lv_iload hx hb dX6_holdRow_32 (lv_at hl 2 rfl) ?_
        refine lv_iadd hx hb dX6_holdRow_34 ?_
        refine lv_lconst (v := (0 : Int64)) hx hb dX6_holdRow_35 (by decide) ?_
        replace h := ix_a h
        obtain ⟨hj, h⟩ := h
        refine as38 hx hb hK hW hS cz38 hj dX6_holdRow_36 (fun H locs hW hS => ?_)
        obtain ⟨M7, eM7⟩ : ∃ y, y = msL M5 3800 0 (((x1 * (60 : Int32)) + i4).toNatClampNeg) (0 : Int64) := ⟨_, rfl⟩
        replace h := nm_a eM7 h
        rw [← eM7] at hW
        obtain ⟨v8, ev8⟩ : ∃ y : Int32, y = i4 + (1 : Int32) := ⟨_, rfl⟩
        replace h := nm_a ev8 h
        refine lv_iinc (v := v8) (lv' := [(4, .int v8), (0, .ref (ad 6 0)), (1, .int x1)]) hx hb dX6_holdRow_37 hl (k := 2) rfl (by rw [ev8]; rfl) (by decide) rfl (fun ls hl => ?_)
        refine lv_goto (tgt := 17) hx hb dX6_holdRow_40 (by decide) ?_
        exact ih3 v8 M7 _ _ _ hW hS (lv_sub hl [1, 2, 0] rfl) h
  exact L3 FU (0 : Int32) M2 _ _ _ hW hS (lv_sub hl [1, 2, 0] rfl) h
def fX6_refuses (x1 : Int32) (x2 : Int32) (M0 : Mem) : Option Int32 :=
  nm (fX6_isPlace x1) fun b1 => if b1 = 0 then (some (-1 : Int32)) else (bd (fX6_isEmpty x1 M0) fun b3 => if b3 = 0 then (bd (fX6_isRow x1 M0) fun b5 => if b5 = 0 then (some (-12 : Int32)) else (bd (fX6_hasElement x1 x2 M0) fun b7 => if b7 = 0 then (some (-13 : Int32)) else (some (0 : Int32)))) else (some (-11 : Int32)))
set_option maxHeartbeats 4000000 in
set_option maxRecDepth 100000 in
theorem mX6_refuses {l : Launch} {D : va_G} {cy : Nat → ClassId} {A : Nat → Prop} {K : KC} {nS nL : Nat} {ad : Nat → Nat → Nat} (hZk : ZOK A (ZC A K)) (x1 : Int32) (x2 : Int32) (M0 : Mem) (r : Int32) (h : fX6_refuses x1 x2 M0 = some r) : Met l yX6_refuses (wt yX6_refuses cX6_refuses 3 (some .int)) (rm 2 43) (CPre D cy A (ZC A K) (cnC nS nL) ad M0 [.ref (ad 6 0), .int x1, .int x2]) (QI D cy A (cnC nS nL) ad r M0) 0 0 A := by
  refine tb_start [.ref (ad 6 0), .int x1, .int x2] [(0, .ref (ad 6 0)), (1, .int x1), (2, .int x2)] RX6 rfl (by decide +kernel) (Nat.le_of_ble_eq_true rfl) rfl (fun p e s m args below meth c hx hb hr hml hown hts hlk hW hK hZ ls hl => ?_)
  have hS : va_S A s.heap s.heap [] := va_S.rf
  unfold fX6_refuses at h
  refine lv_aload_n hx hb dX6_refuses_0 rfl (lv_at hl 0 rfl) ?_
  refine lv_iload_n hx hb dX6_refuses_1 rfl (lv_at hl 1 rfl) ?_
  refine tb_cVZ hZk hx hb hml hown hts hK hZ hW hS [.int x1] (mX6_isPlace (l := l) hZk x1 M0 (fX6_isPlace x1) rfl) pmX6_isPlace tw1164 (Wd.recv hK hW (t := 6) (by decide) cz6 (C := RX6) (T := TX6) (N := 4) rfl) ⟨Nat.le_of_ble_eq_true rfl, Nat.le_of_ble_eq_true rfl⟩ rfl hl.1 (Nat.le_of_ble_eq_true rfl) ⟨Nat.le_refl _, Nat.le_refl _⟩ rfl dX6_refuses_2 (fun H locs hW hS hzz => ?_)
  refine lv_topi (fun b1 eb1 => ?_)
  replace h := nm_a eb1 h
  have hzb1 : b1 = 0 ∨ b1 = 1 := by rw [eb1]; exact hzz
  refine lv_if_ne (tgt := 10) hx hb dX6_refuses_5 (by decide) (fun c2 => ?_) (fun c2 => ?_)
  · replace h := sh_f c2 h
    refine lv_aload_n hx hb dX6_refuses_10 rfl (lv_at hl 0 rfl) ?_
    refine lv_iload_n hx hb dX6_refuses_11 rfl (lv_at hl 1 rfl) ?_
    replace h := bd_a h
    obtain ⟨b3, hcb3, h⟩ := h
    refine tb_cVZ hZk hx hb hml hown hts hK hZ hW hS [.int x1] (mX6_isEmpty (l := l) hZk x1 M0 b3 hcb3) pmX6_isEmpty tw1165 (Wd.recv hK hW (t := 6) (by decide) cz6 (C := RX6) (T := TX6) (N := 4) rfl) ⟨Nat.le_of_ble_eq_true rfl, Nat.le_of_ble_eq_true rfl⟩ rfl hl.1 (Nat.le_of_ble_eq_true rfl) ⟨Nat.le_refl _, Nat.le_refl _⟩ rfl dX6_refuses_12 (fun H locs hW hS hzz => ?_)
    have hzb3 := hzz
    refine lv_if_eq (tgt := 21) hx hb dX6_refuses_15 (by decide) (fun c4 => ?_) (fun c4 => ?_)
    · replace h := sh_t c4 h
      refine lv_aload_n hx hb dX6_refuses_21 rfl (lv_at hl 0 rfl) ?_
      refine lv_iload_n hx hb dX6_refuses_22 rfl (lv_at hl 1 rfl) ?_
      replace h := bd_a h
      obtain ⟨b5, hcb5, h⟩ := h
      refine tb_cVZ hZk hx hb hml hown hts hK hZ hW hS [.int x1] (mX6_isRow (l := l) hZk x1 M0 b5 hcb5) pmX6_isRow tw596 (Wd.recv hK hW (t := 6) (by decide) cz6 (C := RX6) (T := TX6) (N := 4) rfl) ⟨Nat.le_of_ble_eq_true rfl, Nat.le_of_ble_eq_true rfl⟩ rfl hl.1 (Nat.le_of_ble_eq_true rfl) ⟨Nat.le_refl _, Nat.le_refl _⟩ rfl dX6_refuses_23 (fun H locs hW hS hzz => ?_)
      have hzb5 := hzz
      refine lv_if_ne (tgt := 32) hx hb dX6_refuses_26 (by decide) (fun c6 => ?_) (fun c6 => ?_)
      · replace h := sh_f c6 h
        refine lv_aload_n hx hb dX6_refuses_32 rfl (lv_at hl 0 rfl) ?_
        refine lv_iload_n hx hb dX6_refuses_33 rfl (lv_at hl 1 rfl) ?_
        refine lv_iload_n hx hb dX6_refuses_34 rfl (lv_at hl 2 rfl) ?_
        replace h := bd_a h
        obtain ⟨b7, hcb7, h⟩ := h
        refine tb_cVZ hZk hx hb hml hown hts hK hZ hW hS [.int x1, .int x2] (mX6_hasElement (l := l) hZk x1 x2 M0 b7 hcb7) pmX6_hasElement tw1166 (Wd.recv hK hW (t := 6) (by decide) cz6 (C := RX6) (T := TX6) (N := 4) rfl) ⟨Nat.le_of_ble_eq_true rfl, Nat.le_of_ble_eq_true rfl⟩ rfl hl.1 (Nat.le_of_ble_eq_true rfl) ⟨Nat.le_refl _, Nat.le_refl _⟩ rfl dX6_refuses_35 (fun H locs hW hS hzz => ?_)
        have hzb7 := hzz
        refine lv_if_eq (tgt := 45) hx hb dX6_refuses_38 (by decide) (fun c8 => ?_) (fun c8 => ?_)
        · replace h := sh_t c8 h
          refine lv_bipush (v := (-13 : Int32)) hx hb dX6_refuses_45 (by decide) ?_
          exact tb_iretO h hx hb hr hS hW hlk dX6_refuses_47
        · replace h := sh_f c8 h
          refine lv_iconst (v := (0 : Int32)) hx hb dX6_refuses_41 (by decide) ?_
          refine lv_goto (tgt := 47) hx hb dX6_refuses_42 (by decide) ?_
          exact tb_iretO h hx hb hr hS hW hlk dX6_refuses_47
      · replace h := sh_t c6 h
        refine lv_bipush (v := (-12 : Int32)) hx hb dX6_refuses_29 (by decide) ?_
        exact tb_iretO h hx hb hr hS hW hlk dX6_refuses_31
    · replace h := sh_f c4 h
      refine lv_bipush (v := (-11 : Int32)) hx hb dX6_refuses_18 (by decide) ?_
      exact tb_iretO h hx hb hr hS hW hlk dX6_refuses_20
  · replace h := sh_t c2 h
    refine lv_iconst (v := (-1 : Int32)) hx hb dX6_refuses_8 (by decide) ?_
    exact tb_iretO h hx hb hr hS hW hlk dX6_refuses_9
def fX6_at (x1 : Int32) (x2 : Int32) (M0 : Mem) : Option Int64 :=
  ix ((x1 * (60 : Int32)) + x2) 360 <| some (mgL M0 3800 0 ((x1 * (60 : Int32)) + x2).toNatClampNeg)
set_option maxHeartbeats 4000000 in
set_option maxRecDepth 100000 in
theorem mX6_at {l : Launch} {D : va_G} {cy : Nat → ClassId} {A : Nat → Prop} {K : KC} {nS nL : Nat} {ad : Nat → Nat → Nat} (hZk : ZOK A (ZC A K)) (x1 : Int32) (x2 : Int32) (M0 : Mem) (r : Int64) (h : fX6_at x1 x2 M0 = some r) : Met l yX6_at (wt yX6_at cX6_at 3 (some .long)) (rm 0 0) (CPre D cy A (ZC A K) (cnC nS nL) ad M0 [.ref (ad 6 0), .int x1, .int x2]) (QL D cy A (cnC nS nL) ad r M0) 0 0 A := by
  refine tb_start [.ref (ad 6 0), .int x1, .int x2] [(0, .ref (ad 6 0)), (1, .int x1), (2, .int x2)] RX6 rfl (by decide +kernel) (Nat.le_of_ble_eq_true rfl) rfl (fun p e s m args below meth c hx hb hr hml hown hts hlk hW hK hZ ls hl => ?_)
  have hS : va_S A s.heap s.heap [] := va_S.rf
  unfold fX6_at at h
  refine lv_aload_n hx hb dX6_at_0 rfl (lv_at hl 0 rfl) ?_
  refine gtX6_21 hx hb hts hown hK hW cz6 dX6_at_1 ?_
  refine lv_iload_n hx hb dX6_at_4 rfl (lv_at hl 1 rfl) ?_
  refine lv_bipush (v := (60 : Int32)) hx hb dX6_at_5 (by decide) ?_
  refine lv_imul hx hb dX6_at_7 ?_
  refine lv_iload_n hx hb dX6_at_8 rfl (lv_at hl 2 rfl) ?_
  refine lv_iadd hx hb dX6_at_9 ?_
  replace h := ix_a h
  obtain ⟨hj, h⟩ := h
  refine al38 hx hb hK hW cz38 hj dX6_at_10 ?_
  exact tb_lretO h hx hb hr hS hW hlk dX6_at_11
def fX6_narrowed (x0 : Int32) (x1 : Int64) : Int64 :=
  if x0 = (0 : Int32) then x1.toInt32.toInt8.toInt32.toInt64 else if x0 = (1 : Int32) then x1.toInt32.toInt16.toInt32.toInt64 else if x0 = (2 : Int32) then x1.toInt32.toInt64 else if x0 = (3 : Int32) then x1 else if (lg_cmp x1 (0 : Int64)) = 0 then ((0 : Int64)) else ((1 : Int64))
set_option maxHeartbeats 4000000 in
set_option maxRecDepth 100000 in
theorem mX6_narrowed {l : Launch} {D : va_G} {cy : Nat → ClassId} {A : Nat → Prop} {K : KC} {nS nL : Nat} {ad : Nat → Nat → Nat} (hZk : ZOK A (ZC A K)) (x0 : Int32) (x1 : Int64) (M0 : Mem) (r : Int64) (h : fX6_narrowed x0 x1 = r) : Met l yX6_narrowed (wt yX6_narrowed cX6_narrowed 3 (some .long)) (rm 0 0) (CPre D cy A (ZC A K) (cnC nS nL) ad M0 [.int x0, .long x1]) (QL D cy A (cnC nS nL) ad r M0) 0 0 A := by
  refine tb_start [.int x0, .long x1] [(0, .int x0), (1, .long x1)] RX6 rfl (by decide +kernel) (Nat.le_of_ble_eq_true rfl) rfl (fun p e s m args below meth c hx hb hr hml hown hts hlk hW hK hZ ls hl => ?_)
  have hS : va_S A s.heap s.heap [] := va_S.rf
  unfold fX6_narrowed at h
  refine lv_iload_n hx hb dX6_narrowed_0 rfl (lv_at hl 0 rfl) ?_
  by_cases c1 : x0 = (0 : Int32)
  · replace h := sh_t c1 h
    refine lv_tableIn (off := 31) (tgt := 32) hx hb dX6_narrowed_1 (by rw [c1]; decide) (by rw [c1]; decide) (by rw [c1]; rfl) (by decide) ?_
    refine lv_lload_n hx hb dX6_narrowed_32 rfl (lv_at hl 1 rfl) ?_
    refine lv_l2i hx hb dX6_narrowed_33 rfl ?_
    refine lv_i2b hx hb dX6_narrowed_34 rfl ?_
    refine lv_i2l hx hb dX6_narrowed_35 rfl ?_
    exact tb_lretP h hx hb hr hS hW hlk dX6_narrowed_36
  · replace h := sh_f c1 h
    by_cases c2 : x0 = (1 : Int32)
    · replace h := sh_t c2 h
      refine lv_tableIn (off := 36) (tgt := 37) hx hb dX6_narrowed_1 (by rw [c2]; decide) (by rw [c2]; decide) (by rw [c2]; rfl) (by decide) ?_
      refine lv_lload_n hx hb dX6_narrowed_37 rfl (lv_at hl 1 rfl) ?_
      refine lv_l2i hx hb dX6_narrowed_38 rfl ?_
      refine lv_i2s hx hb dX6_narrowed_39 rfl ?_
      refine lv_i2l hx hb dX6_narrowed_40 rfl ?_
      exact tb_lretP h hx hb hr hS hW hlk dX6_narrowed_41
    · replace h := sh_f c2 h
      by_cases c3 : x0 = (2 : Int32)
      · replace h := sh_t c3 h
        refine lv_tableIn (off := 41) (tgt := 42) hx hb dX6_narrowed_1 (by rw [c3]; decide) (by rw [c3]; decide) (by rw [c3]; rfl) (by decide) ?_
        refine lv_lload_n hx hb dX6_narrowed_42 rfl (lv_at hl 1 rfl) ?_
        refine lv_l2i hx hb dX6_narrowed_43 rfl ?_
        refine lv_i2l hx hb dX6_narrowed_44 rfl ?_
        exact tb_lretP h hx hb hr hS hW hlk dX6_narrowed_45
      · replace h := sh_f c3 h
        by_cases c4 : x0 = (3 : Int32)
        · replace h := sh_t c4 h
          refine lv_tableIn (off := 45) (tgt := 46) hx hb dX6_narrowed_1 (by rw [c4]; decide) (by rw [c4]; decide) (by rw [c4]; rfl) (by decide) ?_
          refine lv_lload_n hx hb dX6_narrowed_46 rfl (lv_at hl 1 rfl) ?_
          exact tb_lretP h hx hb hr hS hW hlk dX6_narrowed_47
        · replace h := sh_f c4 h
          refine lv_tableOut (tgt := 48) hx hb dX6_narrowed_1 (sw_out x0 (by decide) (fun z h1 h2 => by
            rcases (show z = 0 ∨ z = 1 ∨ z = 2 ∨ z = 3 by omega) with rfl | rfl | rfl | rfl <;> first | exact fun e => c1 (Int32.toInt_inj.mp (e.trans (by decide))) | exact fun e => c2 (Int32.toInt_inj.mp (e.trans (by decide))) | exact fun e => c3 (Int32.toInt_inj.mp (e.trans (by decide))) | exact fun e => c4 (Int32.toInt_inj.mp (e.trans (by decide))))) (by decide) ?_
          refine lv_lload_n hx hb dX6_narrowed_48 rfl (lv_at hl 1 rfl) ?_
          refine lv_lconst (v := (0 : Int64)) hx hb dX6_narrowed_49 (by decide) ?_
          refine W.lcmp hx hb dX6_narrowed_50 ?_
          refine lv_if_eq (tgt := 58) hx hb dX6_narrowed_51 (by decide) (fun c5 => ?_) (fun c5 => ?_)
          · replace h := sh_t c5 h
            refine lv_lconst (v := (0 : Int64)) hx hb dX6_narrowed_58 (by decide) ?_
            exact tb_lretP h hx hb hr hS hW hlk dX6_narrowed_59
          · replace h := sh_f c5 h
            refine lv_lconst (v := (1 : Int64)) hx hb dX6_narrowed_54 (by decide) ?_
            refine lv_goto (tgt := 59) hx hb dX6_narrowed_55 (by decide) ?_
            exact tb_lretP h hx hb hr hS hW hlk dX6_narrowed_59
def fX6_store (x1 : Int32) (x2 : Int32) (x3 : Int64) (M0 : Mem) : Option (Unit × Mem) :=
  ix x1 6 <| nm (fX6_narrowed (mgI M0 3500 0 x1.toNatClampNeg) x3) fun v1 => ix ((x1 * (60 : Int32)) + x2) 360 <| nm (msL M0 3800 0 (((x1 * (60 : Int32)) + x2).toNatClampNeg) v1) fun M2 => some ((), M2)
set_option maxHeartbeats 4000000 in
set_option maxRecDepth 100000 in
theorem mX6_store {l : Launch} {D : va_G} {cy : Nat → ClassId} {A : Nat → Prop} {K : KC} {nS nL : Nat} {ad : Nat → Nat → Nat} (hZk : ZOK A (ZC A K)) (x1 : Int32) (x2 : Int32) (x3 : Int64) (M0 : Mem) (r : Unit) (M' : Mem) (h : fX6_store x1 x2 x3 M0 = some (r, M')) : Met l yX6_store (wt yX6_store cX6_store 5 none) (rm 1 22) (CPre D cy A (ZC A K) (cnC nS nL) ad M0 [.ref (ad 6 0), .int x1, .int x2, .long x3]) (QV D cy A (cnC nS nL) ad r M') 0 0 A := by
  refine tb_start [.ref (ad 6 0), .int x1, .int x2, .long x3] [(0, .ref (ad 6 0)), (1, .int x1), (2, .int x2), (3, .long x3)] RX6 rfl (by decide +kernel) (Nat.le_of_ble_eq_true rfl) rfl (fun p e s m args below meth c hx hb hr hml hown hts hlk hW hK hZ ls hl => ?_)
  have hS : va_S A s.heap s.heap [] := va_S.rf
  unfold fX6_store at h
  refine lv_aload_n hx hb dX6_store_0 rfl (lv_at hl 0 rfl) ?_
  refine gtX6_21 hx hb hts hown hK hW cz6 dX6_store_1 ?_
  refine lv_iload_n hx hb dX6_store_4 rfl (lv_at hl 1 rfl) ?_
  refine lv_bipush (v := (60 : Int32)) hx hb dX6_store_5 (by decide) ?_
  refine lv_imul hx hb dX6_store_7 ?_
  refine lv_iload_n hx hb dX6_store_8 rfl (lv_at hl 2 rfl) ?_
  refine lv_iadd hx hb dX6_store_9 ?_
  refine lv_aload_n hx hb dX6_store_10 rfl (lv_at hl 0 rfl) ?_
  refine gtX6_11 hx hb hts hown hK hW cz6 dX6_store_11 ?_
  refine lv_iload_n hx hb dX6_store_14 rfl (lv_at hl 1 rfl) ?_
  replace h := ix_a h
  obtain ⟨hj, h⟩ := h
  refine al35 hx hb hK hW cz35 hj dX6_store_15 ?_
  refine lv_lload_n hx hb dX6_store_16 rfl (lv_at hl 3 rfl) ?_
  refine tb_cSL hZk hx hb hml hown hts hK hZ hW hS [.int (mgI M0 3500 0 x1.toNatClampNeg), .long x3] (mX6_narrowed (l := l) hZk (mgI M0 3500 0 x1.toNatClampNeg) x3 M0 (fX6_narrowed (mgI M0 3500 0 x1.toNatClampNeg) x3) rfl) pmX6_narrowed tw1171 ⟨Nat.le_of_ble_eq_true rfl, Nat.le_of_ble_eq_true rfl⟩ rfl hl.1 (Nat.le_of_ble_eq_true rfl) ⟨Nat.le_refl _, Nat.le_refl _⟩ rfl dX6_store_17 (fun H locs hW hS => ?_)
  refine lv_topl (fun v1 ev1 => ?_)
  replace h := nm_a ev1 h
  replace h := ix_a h
  obtain ⟨hj, h⟩ := h
  refine as38 hx hb hK hW hS cz38 hj dX6_store_20 (fun H locs hW hS => ?_)
  obtain ⟨M2, eM2⟩ : ∃ y, y = msL M0 3800 0 (((x1 * (60 : Int32)) + x2).toNatClampNeg) v1 := ⟨_, rfl⟩
  replace h := nm_a eM2 h
  rw [← eM2] at hW
  exact tb_vretE h hx hb hr hS hW hlk dX6_store_21
def fX7_addBytes_b16 (x1 : Int32) (x2 : Int32) (k2 : Int32 → Mem → Option (Int32 × Mem)) (i3 : Int32) (M4 : Mem) : Option (Int32 × Mem) :=
  if x1 ≤ i3 then (some (mgI M4 701 0 0, M4)) else (if (4 : Int32) ≤ i3 then (some (mgI M4 701 0 0, M4)) else (nm (((x2.toUInt32 >>> (((8 : Int32) * i3).toUInt32 &&& Int32.toUInt32 31)).toInt32) &&& (255 : Int32)) fun v7 => ix (mgI M4 701 0 0) 120 <| nm (msI M4 3900 0 ((mgI M4 701 0 0).toNatClampNeg) v7) fun M8 => nm ((mgI M8 701 0 0) + (1 : Int32)) fun v9 => nm (msI M8 701 0 0 v9) fun M10 => nm (i3 + (1 : Int32)) fun v11 => k2 v11 M10))
def fX7_addBytes_l16 (x1 : Int32) (x2 : Int32) : Nat → Int32 → Mem → Option (Int32 × Mem)
  | 0, _, _ => none
  | n + 1, i3, M4 => fX7_addBytes_b16 x1 x2 (fX7_addBytes_l16 x1 x2 n) i3 M4
def fX7_addBytes (x1 : Int32) (x2 : Int32) (M0 : Mem) : Option (Int32 × Mem) :=
  if ((mgI M0 701 0 0) + x1) ≤ (120 : Int32) then (fX7_addBytes_l16 x1 x2 FU (0 : Int32) M0) else (some ((-3 : Int32), M0))
set_option maxHeartbeats 4000000 in
set_option maxRecDepth 100000 in
theorem mX7_addBytes {l : Launch} {D : va_G} {cy : Nat → ClassId} {A : Nat → Prop} {K : KC} {nS nL : Nat} {ad : Nat → Nat → Nat} (hZk : ZOK A (ZC A K)) (x1 : Int32) (x2 : Int32) (M0 : Mem) (r : Int32) (M' : Mem) (h : fX7_addBytes x1 x2 M0 = some (r, M')) : Met l yX7_addBytes (wt yX7_addBytes cX7_addBytes 4 (some .int)) (rm 0 0) (CPre D cy A (ZC A K) (cnC nS nL) ad M0 [.ref (ad 7 0), .int x1, .int x2]) (QI D cy A (cnC nS nL) ad r M') 0 0 A := by
  refine tb_start [.ref (ad 7 0), .int x1, .int x2] [(0, .ref (ad 7 0)), (1, .int x1), (2, .int x2)] RX7 rfl (by decide +kernel) (Nat.le_of_ble_eq_true rfl) rfl (fun p e s m args below meth c hx hb hr hml hown hts hlk hW hK hZ ls hl => ?_)
  have hS : va_S A s.heap s.heap [] := va_S.rf
  unfold fX7_addBytes at h
  refine lv_aload_n hx hb dX7_addBytes_0 rfl (lv_at hl 0 rfl) ?_
  refine gtX7_22 hx hb hts hown hK hW cz7 dX7_addBytes_1 ?_
  refine lv_iload_n hx hb dX7_addBytes_4 rfl (lv_at hl 1 rfl) ?_
  refine lv_iadd hx hb dX7_addBytes_5 ?_
  refine lv_bipush (v := (120 : Int32)) hx hb dX7_addBytes_6 (by decide) ?_
  refine lv_icmp_le (tgt := 14) hx hb dX7_addBytes_8 (by decide) (fun c1 => ?_) (fun c1 => ?_)
  · replace h := sh_t c1 h
    refine lv_iconst (v := (0 : Int32)) hx hb dX7_addBytes_14 (by decide) ?_
    refine lv_istore_n (lv' := [(3, .int (0 : Int32)), (0, .ref (ad 7 0)), (1, .int x1), (2, .int x2)]) hx hb dX7_addBytes_15 rfl hl (by decide) rfl (fun ls hl => ?_)
    have L2 : ∀ (n2 : Nat) (i3 : Int32) (M4 : Mem) (H : Heap) (locs : List Loc) (ls : Array Slot), Wd D cy A (cnC nS nL) ad M4 H → va_S A s.heap H locs → lv_has ls 4 [(0, .ref (ad 7 0)), (1, .int x1), (2, .int x2), (3, .int i3)] → fX7_addBytes_l16 x1 x2 n2 i3 M4 = some (r, M') → W p l e (rm 0 0) s m args below meth c H locs 0 0 (MQ below (QI D cy A (cnC nS nL) ad r M') args s 0 0 A) (F0 m 16 ls []) := by
      intro n2
      induction n2 with
      | zero => intro i3 M4 H locs ls hW hS hl h; cases h
      | succ n2 ih2 =>
        intro i3 M4 H locs ls hW hS hl h
        unfold fX7_addBytes_l16 fX7_addBytes_b16 at h
        refine lv_iload_n hx hb dX7_addBytes_16 rfl (lv_at hl 3 rfl) ?_
        refine lv_iload_n hx hb dX7_addBytes_17 rfl (lv_at hl 1 rfl) ?_
        refine lv_icmp_ge (tgt := 61) hx hb dX7_addBytes_18 (by decide) (fun c5 => ?_) (fun c5 => ?_)
        · replace h := sh_t c5 h
          refine lv_aload_n hx hb dX7_addBytes_61 rfl (lv_at hl 0 rfl) ?_
          refine gtX7_22 hx hb hts hown hK hW cz7 dX7_addBytes_62 ?_
          exact tb_iretE h hx hb hr hS hW hlk dX7_addBytes_65
        · replace h := sh_f c5 h
          refine lv_iload_n hx hb dX7_addBytes_21 rfl (lv_at hl 3 rfl) ?_
          refine lv_iconst (v := (4 : Int32)) hx hb dX7_addBytes_22 (by decide) ?_
          refine lv_icmp_ge (tgt := 61) hx hb dX7_addBytes_23 (by decide) (fun c6 => ?_) (fun c6 => ?_)
          · replace h := sh_t c6 h
            refine lv_aload_n hx hb dX7_addBytes_61 rfl (lv_at hl 0 rfl) ?_
            refine gtX7_22 hx hb hts hown hK hW cz7 dX7_addBytes_62 ?_
            exact tb_iretE h hx hb hr hS hW hlk dX7_addBytes_65
          · replace h := sh_f c6 h
            refine lv_aload_n hx hb dX7_addBytes_26 rfl (lv_at hl 0 rfl) ?_
            refine gtX7_18 hx hb hts hown hK hW cz7 dX7_addBytes_27 ?_
            refine lv_aload_n hx hb dX7_addBytes_30 rfl (lv_at hl 0 rfl) ?_
            refine gtX7_22 hx hb hts hown hK hW cz7 dX7_addBytes_31 ?_
            refine lv_iload_n hx hb dX7_addBytes_34 rfl (lv_at hl 2 rfl) ?_
            refine lv_bipush (v := (8 : Int32)) hx hb dX7_addBytes_35 (by decide) ?_
            refine lv_iload_n hx hb dX7_addBytes_37 rfl (lv_at hl 3 rfl) ?_
            refine lv_imul hx hb dX7_addBytes_38 ?_
            refine lv_iushr hx hb dX7_addBytes_39 rfl ?_
            refine lv_sipush (v := (255 : Int32)) hx hb dX7_addBytes_40 (by decide) ?_
            refine lv_iand hx hb dX7_addBytes_43 ?_
            refine lv_topi (fun v7 ev7 => ?_)
            replace h := nm_a ev7 h
            replace h := ix_a h
            obtain ⟨hj, h⟩ := h
            refine as39 hx hb hK hW hS cz39 hj dX7_addBytes_44 (fun H locs hW hS => ?_)
            obtain ⟨M8, eM8⟩ : ∃ y, y = msI M4 3900 0 ((mgI M4 701 0 0).toNatClampNeg) v7 := ⟨_, rfl⟩
            replace h := nm_a eM8 h
            rw [← eM8] at hW
            refine lv_aload_n hx hb dX7_addBytes_45 rfl (lv_at hl 0 rfl) ?_
            refine lv_dup hx hb dX7_addBytes_46 rfl ?_
            refine gtX7_22 hx hb hts hown hK hW cz7 dX7_addBytes_47 ?_
            refine lv_iconst (v := (1 : Int32)) hx hb dX7_addBytes_50 (by decide) ?_
            refine lv_iadd hx hb dX7_addBytes_51 ?_
            refine lv_topi (fun v9 ev9 => ?_)
            replace h := nm_a ev9 h
            refine ptX7_22 hx hb hts hown hK hW hS cz7 dX7_addBytes_52 (fun H locs hW hS => ?_)
            obtain ⟨M10, eM10⟩ : ∃ y, y = msI M8 701 0 0 v9 := ⟨_, rfl⟩
            replace h := nm_a eM10 h
            rw [← eM10] at hW
            obtain ⟨v11, ev11⟩ : ∃ y : Int32, y = i3 + (1 : Int32) := ⟨_, rfl⟩
            replace h := nm_a ev11 h
            refine lv_iinc (v := v11) (lv' := [(3, .int v11), (0, .ref (ad 7 0)), (1, .int x1), (2, .int x2)]) hx hb dX7_addBytes_55 hl (k := 3) rfl (by rw [ev11]; rfl) (by decide) rfl (fun ls hl => ?_)
            refine lv_goto (tgt := 16) hx hb dX7_addBytes_58 (by decide) ?_
            exact ih2 v11 M10 _ _ _ hW hS (lv_sub hl [1, 2, 3, 0] rfl) h
    exact L2 FU (0 : Int32) M0 _ _ _ hW hS (lv_sub hl [1, 2, 3, 0] rfl) h
  · replace h := sh_f c1 h
    refine lv_bipush (v := (-3 : Int32)) hx hb dX7_addBytes_11 (by decide) ?_
    exact tb_iretE h hx hb hr hS hW hlk dX7_addBytes_13
def fX7_sees (x1 : Nat) (M0 : Mem) : Option Int32 :=
  if (mgI M0 701 0 0) ≤ (mgI M0 703 0 0) then (some (0 : Int32)) else (if (120 : Int32) ≤ (mgI M0 703 0 0) then (some (0 : Int32)) else (ix (mgI M0 703 0 0) 120 <| bd (fJ0_indexOf_0f7a4 x1 (((mgI M0 3900 0 (mgI M0 703 0 0).toNatClampNeg).toUInt32 % 65536).toInt32) M0) fun b3 => if b3 < 0 then (some (0 : Int32)) else (some (1 : Int32))))
set_option maxHeartbeats 4000000 in
set_option maxRecDepth 100000 in
theorem mX7_sees {l : Launch} {D : va_G} {cy : Nat → ClassId} {A : Nat → Prop} {K : KC} {nS nL : Nat} {ad : Nat → Nat → Nat} (hZk : ZOK A (ZC A K)) (x1 : Nat) (M0 : Mem) (hx1 : x1 < 12) (r : Int32) (h : fX7_sees x1 M0 = some r) : Met l yX7_sees (wt yX7_sees cX7_sees 2 (some .boolean)) (rm 4 106) (CPre D cy A (ZC A K) (cnC nS nL) ad M0 [.ref (ad 7 0), .ref (K.1 x1)]) (QZ D cy A (cnC nS nL) ad r M0) 0 0 A := by
  refine tb_start [.ref (ad 7 0), .ref (K.1 x1)] [(0, .ref (ad 7 0)), (1, .ref (K.1 x1))] RX7 rfl (by decide +kernel) (Nat.le_of_ble_eq_true rfl) rfl (fun p e s m args below meth c hx hb hr hml hown hts hlk hW hK hZ ls hl => ?_)
  have hS : va_S A s.heap s.heap [] := va_S.rf
  unfold fX7_sees at h
  refine lv_aload_n hx hb dX7_sees_0 rfl (lv_at hl 0 rfl) ?_
  refine gtX7_27 hx hb hts hown hK hW cz7 dX7_sees_1 ?_
  refine lv_aload_n hx hb dX7_sees_4 rfl (lv_at hl 0 rfl) ?_
  refine gtX7_22 hx hb hts hown hK hW cz7 dX7_sees_5 ?_
  refine lv_icmp_ge (tgt := 41) hx hb dX7_sees_8 (by decide) (fun c1 => ?_) (fun c1 => ?_)
  · replace h := sh_t c1 h
    refine lv_iconst (v := (0 : Int32)) hx hb dX7_sees_41 (by decide) ?_
    exact tb_zretO h hx hb hr hS hW hlk (by decide) dX7_sees_42
  · replace h := sh_f c1 h
    refine lv_aload_n hx hb dX7_sees_11 rfl (lv_at hl 0 rfl) ?_
    refine gtX7_27 hx hb hts hown hK hW cz7 dX7_sees_12 ?_
    refine lv_bipush (v := (120 : Int32)) hx hb dX7_sees_15 (by decide) ?_
    refine lv_icmp_ge (tgt := 41) hx hb dX7_sees_17 (by decide) (fun c2 => ?_) (fun c2 => ?_)
    · replace h := sh_t c2 h
      refine lv_iconst (v := (0 : Int32)) hx hb dX7_sees_41 (by decide) ?_
      exact tb_zretO h hx hb hr hS hW hlk (by decide) dX7_sees_42
    · replace h := sh_f c2 h
      refine lv_aload_n hx hb dX7_sees_20 rfl (lv_at hl 1 rfl) ?_
      refine lv_aload_n hx hb dX7_sees_21 rfl (lv_at hl 0 rfl) ?_
      refine gtX7_18 hx hb hts hown hK hW cz7 dX7_sees_22 ?_
      refine lv_aload_n hx hb dX7_sees_25 rfl (lv_at hl 0 rfl) ?_
      refine gtX7_27 hx hb hts hown hK hW cz7 dX7_sees_26 ?_
      replace h := ix_a h
      obtain ⟨hj, h⟩ := h
      refine al39 hx hb hK hW cz39 hj dX7_sees_29 ?_
      refine lv_i2c hx hb dX7_sees_30 rfl ?_
      replace h := bd_a h
      obtain ⟨b3, hcb3, h⟩ := h
      refine tb_cVI hZk hx hb hml hown hts hK hZ hW hS [.int (((mgI M0 3900 0 (mgI M0 703 0 0).toNatClampNeg).toUInt32 % 65536).toInt32)] (mJ0_indexOf_0f7a4 (l := l) hZk x1 (((mgI M0 3900 0 (mgI M0 703 0 0).toNatClampNeg).toUInt32 % 65536).toInt32) M0 hx1 b3 hcb3) pmJ0_indexOf_0f7a4 tw951 (tb_Trecv ((hZ.1 _ hx1).1) hS) ⟨Nat.le_of_ble_eq_true rfl, Nat.le_of_ble_eq_true rfl⟩ rfl hl.1 (Nat.le_of_ble_eq_true rfl) ⟨Nat.le_refl _, Nat.le_refl _⟩ rfl dX7_sees_31 (fun H locs hW hS => ?_)
      refine lv_if_lt (tgt := 41) hx hb dX7_sees_34 (by decide) (fun c4 => ?_) (fun c4 => ?_)
      · replace h := sh_t c4 h
        refine lv_iconst (v := (0 : Int32)) hx hb dX7_sees_41 (by decide) ?_
        exact tb_zretO h hx hb hr hS hW hlk (by decide) dX7_sees_42
      · replace h := sh_f c4 h
        refine lv_iconst (v := (1 : Int32)) hx hb dX7_sees_37 (by decide) ?_
        refine lv_goto (tgt := 42) hx hb dX7_sees_38 (by decide) ?_
        exact tb_zretO h hx hb hr hS hW hlk (by decide) dX7_sees_42
def fX10_add (th : Nat) (x1 : Int32) (M0 : Mem) : Option (Unit × Mem) :=
  if (121 : Int32) ≤ (mgI M0 1001 th 0) then (some ((), M0)) else (ix (mgI M0 1001 th 0) 121 <| nm (msI M0 4400 th ((mgI M0 1001 th 0).toNatClampNeg) x1) fun M2 => nm ((mgI M2 1001 th 0) + (1 : Int32)) fun v3 => nm (msI M2 1001 th 0 v3) fun M4 => some ((), M4))
set_option maxHeartbeats 4000000 in
set_option maxRecDepth 100000 in
theorem mX10_add {l : Launch} {D : va_G} {cy : Nat → ClassId} {A : Nat → Prop} {K : KC} {nS nL : Nat} {ad : Nat → Nat → Nat} (hZk : ZOK A (ZC A K)) (th : Nat) (x1 : Int32) (M0 : Mem) (hth : th < (cnC nS nL) 10) (r : Unit) (M' : Mem) (h : fX10_add th x1 M0 = some (r, M')) : Met l yX10_add (wt yX10_add cX10_add 2 none) (rm 0 0) (CPre D cy A (ZC A K) (cnC nS nL) ad M0 [.ref (ad 10 th), .int x1]) (QV D cy A (cnC nS nL) ad r M') 0 0 A := by
  refine tb_start [.ref (ad 10 th), .int x1] [(0, .ref (ad 10 th)), (1, .int x1)] RX10 rfl (by decide +kernel) (Nat.le_of_ble_eq_true rfl) rfl (fun p e s m args below meth c hx hb hr hml hown hts hlk hW hK hZ ls hl => ?_)
  have hS : va_S A s.heap s.heap [] := va_S.rf
  unfold fX10_add at h
  refine lv_aload_n hx hb dX10_add_0 rfl (lv_at hl 0 rfl) ?_
  refine gtX10_15 hx hb hts hown hK hW hth dX10_add_1 ?_
  refine lv_bipush (v := (121 : Int32)) hx hb dX10_add_4 (by decide) ?_
  refine lv_icmp_ge (tgt := 29) hx hb dX10_add_6 (by decide) (fun c1 => ?_) (fun c1 => ?_)
  · replace h := sh_t c1 h
    exact tb_vretE h hx hb hr hS hW hlk dX10_add_29
  · replace h := sh_f c1 h
    refine lv_aload_n hx hb dX10_add_9 rfl (lv_at hl 0 rfl) ?_
    refine gtX10_11 hx hb hts hown hK hW hth dX10_add_10 ?_
    refine lv_aload_n hx hb dX10_add_13 rfl (lv_at hl 0 rfl) ?_
    refine gtX10_15 hx hb hts hown hK hW hth dX10_add_14 ?_
    refine lv_iload_n hx hb dX10_add_17 rfl (lv_at hl 1 rfl) ?_
    replace h := ix_a h
    obtain ⟨hj, h⟩ := h
    refine as44 hx hb hK hW hS hth hj dX10_add_18 (fun H locs hW hS => ?_)
    obtain ⟨M2, eM2⟩ : ∃ y, y = msI M0 4400 th ((mgI M0 1001 th 0).toNatClampNeg) x1 := ⟨_, rfl⟩
    replace h := nm_a eM2 h
    rw [← eM2] at hW
    refine lv_aload_n hx hb dX10_add_19 rfl (lv_at hl 0 rfl) ?_
    refine lv_dup hx hb dX10_add_20 rfl ?_
    refine gtX10_15 hx hb hts hown hK hW hth dX10_add_21 ?_
    refine lv_iconst (v := (1 : Int32)) hx hb dX10_add_24 (by decide) ?_
    refine lv_iadd hx hb dX10_add_25 ?_
    refine lv_topi (fun v3 ev3 => ?_)
    replace h := nm_a ev3 h
    refine ptX10_15 hx hb hts hown hK hW hS hth dX10_add_26 (fun H locs hW hS => ?_)
    obtain ⟨M4, eM4⟩ : ∃ y, y = msI M2 1001 th 0 v3 := ⟨_, rfl⟩
    replace h := nm_a eM4 h
    rw [← eM4] at hW
    exact tb_vretE h hx hb hr hS hW hlk dX10_add_29
def fX7_readNumber_b4 (k1 : Int32 → Int32 → Mem → Option (Unit × Mem)) (i2 : Int32) (i3 : Int32) (M4 : Mem) : Option (Unit × Mem) :=
  if (4 : Int32) ≤ i3 then (bE (fX10_add 2 i2 M4) fun u6 M7 => some ((), M7)) else (bd (fX7_sees 0 M4) fun b8 => if b8 = 0 then (bE (fX10_add 2 i2 M4) fun u10 M11 => some ((), M11)) else (ix (mgI M4 703 0 0) 120 <| nm ((((10 : Int32) * i2) + (mgI M4 3900 0 (mgI M4 703 0 0).toNatClampNeg)) - (48 : Int32)) fun v12 => nm ((mgI M4 703 0 0) + (1 : Int32)) fun v13 => nm (msI M4 703 0 0 v13) fun M14 => nm (i3 + (1 : Int32)) fun v15 => k1 v12 v15 M14))
def fX7_readNumber_l4 : Nat → Int32 → Int32 → Mem → Option (Unit × Mem)
  | 0, _, _, _ => none
  | n + 1, i2, i3, M4 => fX7_readNumber_b4 (fX7_readNumber_l4 n) i2 i3 M4
def fX7_readNumber (M0 : Mem) : Option (Unit × Mem) :=
  fX7_readNumber_l4 FU (0 : Int32) (0 : Int32) M0
set_option maxHeartbeats 4000000 in
set_option maxRecDepth 100000 in
theorem mX7_readNumber {l : Launch} {D : va_G} {cy : Nat → ClassId} {A : Nat → Prop} {K : KC} {nS nL : Nat} {ad : Nat → Nat → Nat} (hZk : ZOK A (ZC A K)) (M0 : Mem) (r : Unit) (M' : Mem) (h : fX7_readNumber M0 = some (r, M')) : Met l yX7_readNumber (wt yX7_readNumber cX7_readNumber 3 none) (rm 5 127) (CPre D cy A (ZC A K) (cnC nS nL) ad M0 [.ref (ad 7 0)]) (QV D cy A (cnC nS nL) ad r M') 0 0 A := by
  refine tb_start [.ref (ad 7 0)] [(0, .ref (ad 7 0))] RX7 rfl (by decide +kernel) (Nat.le_of_ble_eq_true rfl) rfl (fun p e s m args below meth c hx hb hr hml hown hts hlk hW hK hZ ls hl => ?_)
  have hS : va_S A s.heap s.heap [] := va_S.rf
  unfold fX7_readNumber at h
  refine lv_iconst (v := (0 : Int32)) hx hb dX7_readNumber_0 (by decide) ?_
  refine lv_istore_n (lv' := [(1, .int (0 : Int32)), (0, .ref (ad 7 0))]) hx hb dX7_readNumber_1 rfl hl (by decide) rfl (fun ls hl => ?_)
  refine lv_iconst (v := (0 : Int32)) hx hb dX7_readNumber_2 (by decide) ?_
  refine lv_istore_n (lv' := [(2, .int (0 : Int32)), (1, .int (0 : Int32)), (0, .ref (ad 7 0))]) hx hb dX7_readNumber_3 rfl hl (by decide) rfl (fun ls hl => ?_)
  have L1 : ∀ (n1 : Nat) (i2 : Int32) (i3 : Int32) (M4 : Mem) (H : Heap) (locs : List Loc) (ls : Array Slot), Wd D cy A (cnC nS nL) ad M4 H → va_S A s.heap H locs → lv_has ls 3 [(0, .ref (ad 7 0)), (1, .int i2), (2, .int i3)] → fX7_readNumber_l4 n1 i2 i3 M4 = some (r, M') → W p l e (rm 5 127) s m args below meth c H locs 0 0 (MQ below (QV D cy A (cnC nS nL) ad r M') args s 0 0 A) (F0 m 4 ls []) := by
    intro n1
    induction n1 with
    | zero => intro i2 i3 M4 H locs ls hW hS hl h; cases h
    | succ n1 ih1 =>
      intro i2 i3 M4 H locs ls hW hS hl h
      unfold fX7_readNumber_l4 fX7_readNumber_b4 at h
      refine lv_iload_n hx hb dX7_readNumber_4 rfl (lv_at hl 2 rfl) ?_
      refine lv_iconst (v := (4 : Int32)) hx hb dX7_readNumber_5 (by decide) ?_
      refine lv_icmp_ge (tgt := 52) hx hb dX7_readNumber_6 (by decide) (fun c5 => ?_) (fun c5 => ?_)
      · replace h := sh_t c5 h
        refine lv_aload_n hx hb dX7_readNumber_52 rfl (lv_at hl 0 rfl) ?_
        refine gtX7_12 hx hb hts hown hK hW cz7 dX7_readNumber_53 ?_
        refine lv_iload_n hx hb dX7_readNumber_56 rfl (lv_at hl 1 rfl) ?_
        replace h := bE_a h
        obtain ⟨u6, M7, hcu6, h⟩ := h
        refine tb_cVV hZk hx hb hml hown hts hK hZ hW hS [.int i2] (mX10_add (l := l) hZk 2 i2 M4 cz10_2 u6 M7 hcu6) pmX10_add tw956 (Wd.recv hK hW (t := 10) (by decide) cz10_2 (C := RX10) (T := TX10) (N := 2) rfl) ⟨Nat.le_of_ble_eq_true rfl, Nat.le_of_ble_eq_true rfl⟩ rfl hl.1 (Nat.le_of_ble_eq_true rfl) ⟨Nat.le_refl _, Nat.le_refl _⟩ rfl dX7_readNumber_57 (fun H locs hW hS => ?_)
        exact tb_vretE h hx hb hr hS hW hlk dX7_readNumber_60
      · replace h := sh_f c5 h
        refine lv_aload_n hx hb dX7_readNumber_9 rfl (lv_at hl 0 rfl) ?_
        refine va_ldcS hx hb hown (zs0 hZ) dX7_readNumber_10 ?_
        replace h := bd_a h
        obtain ⟨b8, hcb8, h⟩ := h
        refine tb_cVZ hZk hx hb hml hown hts hK hZ hW hS [.ref (K.1 0)] (mX7_sees (l := l) hZk 0 M4 (by decide) b8 hcb8) pmX7_sees tw947 (Wd.recv hK hW (t := 7) (by decide) cz7 (C := RX7) (T := TX7) (N := 5) rfl) ⟨Nat.le_of_ble_eq_true rfl, Nat.le_of_ble_eq_true rfl⟩ rfl hl.1 (Nat.le_of_ble_eq_true rfl) ⟨Nat.le_refl _, Nat.le_refl _⟩ rfl dX7_readNumber_12 (fun H locs hW hS hzz => ?_)
        have hzb8 := hzz
        refine lv_if_eq (tgt := 52) hx hb dX7_readNumber_15 (by decide) (fun c9 => ?_) (fun c9 => ?_)
        · replace h := sh_t c9 h
          refine lv_aload_n hx hb dX7_readNumber_52 rfl (lv_at hl 0 rfl) ?_
          refine gtX7_12 hx hb hts hown hK hW cz7 dX7_readNumber_53 ?_
          refine lv_iload_n hx hb dX7_readNumber_56 rfl (lv_at hl 1 rfl) ?_
          replace h := bE_a h
          obtain ⟨u10, M11, hcu10, h⟩ := h
          refine tb_cVV hZk hx hb hml hown hts hK hZ hW hS [.int i2] (mX10_add (l := l) hZk 2 i2 M4 cz10_2 u10 M11 hcu10) pmX10_add tw956 (Wd.recv hK hW (t := 10) (by decide) cz10_2 (C := RX10) (T := TX10) (N := 2) rfl) ⟨Nat.le_of_ble_eq_true rfl, Nat.le_of_ble_eq_true rfl⟩ rfl hl.1 (Nat.le_of_ble_eq_true rfl) ⟨Nat.le_refl _, Nat.le_refl _⟩ rfl dX7_readNumber_57 (fun H locs hW hS => ?_)
          exact tb_vretE h hx hb hr hS hW hlk dX7_readNumber_60
        · replace h := sh_f c9 h
          refine lv_bipush (v := (10 : Int32)) hx hb dX7_readNumber_18 (by decide) ?_
          refine lv_iload_n hx hb dX7_readNumber_20 rfl (lv_at hl 1 rfl) ?_
          refine lv_imul hx hb dX7_readNumber_21 ?_
          refine lv_aload_n hx hb dX7_readNumber_22 rfl (lv_at hl 0 rfl) ?_
          refine gtX7_18 hx hb hts hown hK hW cz7 dX7_readNumber_23 ?_
          refine lv_aload_n hx hb dX7_readNumber_26 rfl (lv_at hl 0 rfl) ?_
          refine gtX7_27 hx hb hts hown hK hW cz7 dX7_readNumber_27 ?_
          replace h := ix_a h
          obtain ⟨hj, h⟩ := h
          refine al39 hx hb hK hW cz39 hj dX7_readNumber_30 ?_
          refine lv_iadd hx hb dX7_readNumber_31 ?_
          refine lv_bipush (v := (48 : Int32)) hx hb dX7_readNumber_32 (by decide) ?_
          refine lv_isub hx hb dX7_readNumber_34 ?_
          refine lv_topi (fun v12 ev12 => ?_)
          replace h := nm_a ev12 h
          refine lv_istore_n (lv' := [(1, .int v12), (0, .ref (ad 7 0)), (2, .int i3)]) hx hb dX7_readNumber_35 rfl hl (by decide) rfl (fun ls hl => ?_)
          refine lv_aload_n hx hb dX7_readNumber_36 rfl (lv_at hl 1 rfl) ?_
          refine lv_dup hx hb dX7_readNumber_37 rfl ?_
          refine gtX7_27 hx hb hts hown hK hW cz7 dX7_readNumber_38 ?_
          refine lv_iconst (v := (1 : Int32)) hx hb dX7_readNumber_41 (by decide) ?_
          refine lv_iadd hx hb dX7_readNumber_42 ?_
          refine lv_topi (fun v13 ev13 => ?_)
          replace h := nm_a ev13 h
          refine ptX7_27 hx hb hts hown hK hW hS cz7 dX7_readNumber_43 (fun H locs hW hS => ?_)
          obtain ⟨M14, eM14⟩ : ∃ y, y = msI M4 703 0 0 v13 := ⟨_, rfl⟩
          replace h := nm_a eM14 h
          rw [← eM14] at hW
          obtain ⟨v15, ev15⟩ : ∃ y : Int32, y = i3 + (1 : Int32) := ⟨_, rfl⟩
          replace h := nm_a ev15 h
          refine lv_iinc (v := v15) (lv' := [(2, .int v15), (1, .int v12), (0, .ref (ad 7 0))]) hx hb dX7_readNumber_46 hl (k := 2) rfl (by rw [ev15]; rfl) (by decide) rfl (fun ls hl => ?_)
          refine lv_goto (tgt := 4) hx hb dX7_readNumber_49 (by decide) ?_
          exact ih1 v12 v15 M14 _ _ _ hW hS (lv_sub hl [2, 1, 0] rfl) h
  exact L1 FU (0 : Int32) (0 : Int32) M0 _ _ _ hW hS (lv_sub hl [2, 1, 0] rfl) h
def fX7_signsOf (x0 : Int32) : Nat :=
  if x0 = (0 : Int32) then 4 else if x0 = (1 : Int32) then 5 else if x0 = (2 : Int32) then 6 else if x0 = (3 : Int32) then 7 else 8
set_option maxHeartbeats 4000000 in
set_option maxRecDepth 100000 in
theorem mX7_signsOf {l : Launch} {D : va_G} {cy : Nat → ClassId} {A : Nat → Prop} {K : KC} {nS nL : Nat} {ad : Nat → Nat → Nat} (hZk : ZOK A (ZC A K)) (x0 : Int32) (M0 : Mem) (r : Nat) (h : fX7_signsOf x0 = r) : Met l yX7_signsOf (wt yX7_signsOf cX7_signsOf 1 (some (.object "java/lang/String"))) (rm 0 0) (CPre D cy A (ZC A K) (cnC nS nL) ad M0 [.int x0]) (QT K D cy A (cnC nS nL) ad r M0) 0 0 A := by
  refine tb_start [.int x0] [(0, .int x0)] RX7 rfl (by decide +kernel) (Nat.le_of_ble_eq_true rfl) rfl (fun p e s m args below meth c hx hb hr hml hown hts hlk hW hK hZ ls hl => ?_)
  have hS : va_S A s.heap s.heap [] := va_S.rf
  unfold fX7_signsOf at h
  refine lv_iload_n hx hb dX7_signsOf_0 rfl (lv_at hl 0 rfl) ?_
  by_cases c1 : x0 = (0 : Int32)
  · replace h := sh_t c1 h
    refine lv_tableIn (off := 31) (tgt := 32) hx hb dX7_signsOf_1 (by rw [c1]; decide) (by rw [c1]; decide) (by rw [c1]; rfl) (by decide) ?_
    refine va_ldcS hx hb hown (zs4 hZ) dX7_signsOf_32 ?_
    exact tb_tretP h (by decide) hx hb hr (by first | exact Or.inl ⟨_, rfl⟩ | exact Or.inr ⟨_, rfl⟩) hS hW hlk dX7_signsOf_34
  · replace h := sh_f c1 h
    by_cases c2 : x0 = (1 : Int32)
    · replace h := sh_t c2 h
      refine lv_tableIn (off := 34) (tgt := 35) hx hb dX7_signsOf_1 (by rw [c2]; decide) (by rw [c2]; decide) (by rw [c2]; rfl) (by decide) ?_
      refine va_ldcS hx hb hown (zs5 hZ) dX7_signsOf_35 ?_
      exact tb_tretP h (by decide) hx hb hr (by first | exact Or.inl ⟨_, rfl⟩ | exact Or.inr ⟨_, rfl⟩) hS hW hlk dX7_signsOf_37
    · replace h := sh_f c2 h
      by_cases c3 : x0 = (2 : Int32)
      · replace h := sh_t c3 h
        refine lv_tableIn (off := 37) (tgt := 38) hx hb dX7_signsOf_1 (by rw [c3]; decide) (by rw [c3]; decide) (by rw [c3]; rfl) (by decide) ?_
        refine va_ldcS hx hb hown (zs6 hZ) dX7_signsOf_38 ?_
        exact tb_tretP h (by decide) hx hb hr (by first | exact Or.inl ⟨_, rfl⟩ | exact Or.inr ⟨_, rfl⟩) hS hW hlk dX7_signsOf_40
      · replace h := sh_f c3 h
        by_cases c4 : x0 = (3 : Int32)
        · replace h := sh_t c4 h
          refine lv_tableIn (off := 40) (tgt := 41) hx hb dX7_signsOf_1 (by rw [c4]; decide) (by rw [c4]; decide) (by rw [c4]; rfl) (by decide) ?_
          refine va_ldcS hx hb hown (zs7 hZ) dX7_signsOf_41 ?_
          exact tb_tretP h (by decide) hx hb hr (by first | exact Or.inl ⟨_, rfl⟩ | exact Or.inr ⟨_, rfl⟩) hS hW hlk dX7_signsOf_43
        · replace h := sh_f c4 h
          refine lv_tableOut (tgt := 44) hx hb dX7_signsOf_1 (sw_out x0 (by decide) (fun z h1 h2 => by
            rcases (show z = 0 ∨ z = 1 ∨ z = 2 ∨ z = 3 by omega) with rfl | rfl | rfl | rfl <;> first | exact fun e => c1 (Int32.toInt_inj.mp (e.trans (by decide))) | exact fun e => c2 (Int32.toInt_inj.mp (e.trans (by decide))) | exact fun e => c3 (Int32.toInt_inj.mp (e.trans (by decide))) | exact fun e => c4 (Int32.toInt_inj.mp (e.trans (by decide))))) (by decide) ?_
          refine va_ldcS hx hb hown (zs8 hZ) dX7_signsOf_44 ?_
          exact tb_tretP h (by decide) hx hb hr (by first | exact Or.inl ⟨_, rfl⟩ | exact Or.inr ⟨_, rfl⟩) hS hW hlk dX7_signsOf_46
def fX8_partOf_b4 (x1 : Int32) (M0 : Mem) (th : Nat) (k1 : Int32 → Int32 → Option Int32) (i2 : Int32) (i3 : Int32) : Option Int32 :=
  if (20 : Int32) ≤ i3 then (if i2 = 0 then (some (0 : Int32)) else (ix x1 20 <| nzI i2 <| some (((mgI M0 4000 th x1.toNatClampNeg) * (1000 : Int32)) / i2))) else (ix i3 20 <| nm (i2 + (mgI M0 4000 th i3.toNatClampNeg)) fun v6 => nm (i3 + (1 : Int32)) fun v7 => k1 v6 v7)
def fX8_partOf_l4 (x1 : Int32) (M0 : Mem) (th : Nat) : Nat → Int32 → Int32 → Option Int32
  | 0, _, _ => none
  | n + 1, i2, i3 => fX8_partOf_b4 x1 M0 th (fX8_partOf_l4 x1 M0 th n) i2 i3
def fX8_partOf (th : Nat) (x1 : Int32) (M0 : Mem) : Option Int32 :=
  fX8_partOf_l4 x1 M0 th FU (0 : Int32) (0 : Int32)
set_option maxHeartbeats 4000000 in
set_option maxRecDepth 100000 in
theorem mX8_partOf {l : Launch} {D : va_G} {cy : Nat → ClassId} {A : Nat → Prop} {K : KC} {nS nL : Nat} {ad : Nat → Nat → Nat} (hZk : ZOK A (ZC A K)) (th : Nat) (x1 : Int32) (M0 : Mem) (hth : th < (cnC nS nL) 8) (r : Int32) (h : fX8_partOf th x1 M0 = some r) : Met l yX8_partOf (wt yX8_partOf cX8_partOf 4 (some .int)) (rm 0 0) (CPre D cy A (ZC A K) (cnC nS nL) ad M0 [.ref (ad 8 th), .int x1]) (QI D cy A (cnC nS nL) ad r M0) 0 0 A := by
  refine tb_start [.ref (ad 8 th), .int x1] [(0, .ref (ad 8 th)), (1, .int x1)] RX8 rfl (by decide +kernel) (Nat.le_of_ble_eq_true rfl) rfl (fun p e s m args below meth c hx hb hr hml hown hts hlk hW hK hZ ls hl => ?_)
  have hS : va_S A s.heap s.heap [] := va_S.rf
  unfold fX8_partOf at h
  refine lv_iconst (v := (0 : Int32)) hx hb dX8_partOf_0 (by decide) ?_
  refine lv_istore_n (lv' := [(2, .int (0 : Int32)), (0, .ref (ad 8 th)), (1, .int x1)]) hx hb dX8_partOf_1 rfl hl (by decide) rfl (fun ls hl => ?_)
  refine lv_iconst (v := (0 : Int32)) hx hb dX8_partOf_2 (by decide) ?_
  refine lv_istore_n (lv' := [(3, .int (0 : Int32)), (2, .int (0 : Int32)), (0, .ref (ad 8 th)), (1, .int x1)]) hx hb dX8_partOf_3 rfl hl (by decide) rfl (fun ls hl => ?_)
  have L1 : ∀ (n1 : Nat) (i2 : Int32) (i3 : Int32) (H : Heap) (locs : List Loc) (ls : Array Slot), Wd D cy A (cnC nS nL) ad M0 H → va_S A s.heap H locs → lv_has ls 4 [(0, .ref (ad 8 th)), (1, .int x1), (2, .int i2), (3, .int i3)] → fX8_partOf_l4 x1 M0 th n1 i2 i3 = some r → W p l e (rm 0 0) s m args below meth c H locs 0 0 (MQ below (QI D cy A (cnC nS nL) ad r M0) args s 0 0 A) (F0 m 4 ls []) := by
    intro n1
    induction n1 with
    | zero => intro i2 i3 H locs ls hW hS hl h; cases h
    | succ n1 ih1 =>
      intro i2 i3 H locs ls hW hS hl h
      unfold fX8_partOf_l4 fX8_partOf_b4 at h
      refine lv_iload_n hx hb dX8_partOf_4 rfl (lv_at hl 3 rfl) ?_
      refine lv_bipush (v := (20 : Int32)) hx hb dX8_partOf_5 (by decide) ?_
      refine lv_icmp_ge (tgt := 25) hx hb dX8_partOf_7 (by decide) (fun c4 => ?_) (fun c4 => ?_)
      · replace h := sh_t c4 h
        refine lv_iload_n hx hb dX8_partOf_25 rfl (lv_at hl 2 rfl) ?_
        refine lv_if_ne (tgt := 33) hx hb dX8_partOf_26 (by decide) (fun c5 => ?_) (fun c5 => ?_)
        · replace h := sh_f c5 h
          refine lv_aload_n hx hb dX8_partOf_33 rfl (lv_at hl 0 rfl) ?_
          refine gtX8_9 hx hb hts hown hK hW hth dX8_partOf_34 ?_
          refine lv_iload_n hx hb dX8_partOf_37 rfl (lv_at hl 1 rfl) ?_
          replace h := ix_a h
          obtain ⟨hj, h⟩ := h
          refine al40 hx hb hK hW hth hj dX8_partOf_38 ?_
          refine lv_sipush (v := (1000 : Int32)) hx hb dX8_partOf_39 (by decide) ?_
          refine lv_imul hx hb dX8_partOf_42 ?_
          refine lv_iload_n hx hb dX8_partOf_43 rfl (lv_at hl 2 rfl) ?_
          replace h := nzI_a h
          obtain ⟨hne, h⟩ := h
          refine lv_idiv hx hb dX8_partOf_44 hne ?_
          exact tb_iretO h hx hb hr hS hW hlk dX8_partOf_45
        · replace h := sh_t c5 h
          refine lv_iconst (v := (0 : Int32)) hx hb dX8_partOf_29 (by decide) ?_
          refine lv_goto (tgt := 45) hx hb dX8_partOf_30 (by decide) ?_
          exact tb_iretO h hx hb hr hS hW hlk dX8_partOf_45
      · replace h := sh_f c4 h
        refine lv_iload_n hx hb dX8_partOf_10 rfl (lv_at hl 2 rfl) ?_
        refine lv_aload_n hx hb dX8_partOf_11 rfl (lv_at hl 0 rfl) ?_
        refine gtX8_9 hx hb hts hown hK hW hth dX8_partOf_12 ?_
        refine lv_iload_n hx hb dX8_partOf_15 rfl (lv_at hl 3 rfl) ?_
        replace h := ix_a h
        obtain ⟨hj, h⟩ := h
        refine al40 hx hb hK hW hth hj dX8_partOf_16 ?_
        refine lv_iadd hx hb dX8_partOf_17 ?_
        refine lv_topi (fun v6 ev6 => ?_)
        replace h := nm_a ev6 h
        refine lv_istore_n (lv' := [(2, .int v6), (0, .ref (ad 8 th)), (1, .int x1), (3, .int i3)]) hx hb dX8_partOf_18 rfl hl (by decide) rfl (fun ls hl => ?_)
        obtain ⟨v7, ev7⟩ : ∃ y : Int32, y = i3 + (1 : Int32) := ⟨_, rfl⟩
        replace h := nm_a ev7 h
        refine lv_iinc (v := v7) (lv' := [(3, .int v7), (2, .int v6), (0, .ref (ad 8 th)), (1, .int x1)]) hx hb dX8_partOf_19 hl (k := 3) rfl (by rw [ev7]; rfl) (by decide) rfl (fun ls hl => ?_)
        refine lv_goto (tgt := 4) hx hb dX8_partOf_22 (by decide) ?_
        exact ih1 v6 v7 _ _ _ hW hS (lv_sub hl [2, 3, 1, 0] rfl) h
  exact L1 FU (0 : Int32) (0 : Int32) _ _ _ hW hS (lv_sub hl [2, 3, 1, 0] rfl) h
def fX9_weigh_b53 (M0 : Mem) (a1 : Nat) (k4 : Int64 → Int64 → (Option Nat) → Option (Unit × Mem)) (j5 : Int64) (j6 : Int64) (o7 : Option Nat) : Option (Unit × Mem) :=
  oc o7 (nm ((if (1000000000 : Int64) < j5 then (1000000000 : Int64) else j5).toInt32) fun v9 => ix (mgI M0 800 a1 0) 64 <| nm (msI M0 4100 0 ((mgI M0 800 a1 0).toNatClampNeg) v9) fun M10 => if (lg_cmp j5 (0 : Int64)) ≤ 0 then (ix (mgI M10 800 a1 0) 64 <| nm (msI M10 4200 0 ((mgI M10 800 a1 0).toNatClampNeg) (-2000000000 : Int32)) fun M12 => some ((), M12)) else (bd (fJ9_floorDiv_f86c9 j6 j5) fun g13 => nm g13.toInt32 fun v14 => ix (mgI M10 800 a1 0) 64 <| nm (msI M10 4200 0 ((mgI M10 800 a1 0).toNatClampNeg) v14) fun M15 => some ((), M15))) fun a8 => if (mgI M0 405 a8 0) = 0 then (ix (mgI M0 401 a8 0) 64 <| nm ((((mgI M0 4100 0 (mgI M0 401 a8 0).toNatClampNeg).toInt64) * ((mgI M0 403 a8 0).toInt64)) / (100 : Int64)) fun v18 => nm (j5 + v18) fun v19 => if (mgI M0 404 a8 0) = (1 : Int32) then (ix (mgI M0 401 a8 0) 64 <| nm (j6 + ((-v18) * ((mgI M0 4200 0 (mgI M0 401 a8 0).toNatClampNeg).toInt64))) fun v23 => nm (mgR M0 402 a8 0) fun o24 => k4 v19 v23 o24) else (ix (mgI M0 401 a8 0) 64 <| nm (j6 + (v18 * ((mgI M0 4200 0 (mgI M0 401 a8 0).toNatClampNeg).toInt64))) fun v21 => nm (mgR M0 402 a8 0) fun o22 => k4 v19 v21 o22)) else (nm (mgR M0 402 a8 0) fun o17 => k4 j5 j6 o17)
def fX9_weigh_l53 (M0 : Mem) (a1 : Nat) : Nat → Int64 → Int64 → (Option Nat) → Option (Unit × Mem)
  | 0, _, _, _ => none
  | n + 1, j5, j6, o7 => fX9_weigh_b53 M0 a1 (fX9_weigh_l53 M0 a1 n) j5 j6 o7
def fX9_weigh (x1 : Option Nat) (M0 : Mem) : Option (Unit × Mem) :=
  oc x1 none fun a1 => if (mgI M0 801 a1 0) = (1 : Int32) then (nm ((mgI M0 804 a1 0) * (20 : Int32)) fun v25 => ix (mgI M0 800 a1 0) 64 <| nm (msI M0 4100 0 ((mgI M0 800 a1 0).toNatClampNeg) v25) fun M26 => nm ((mgI M26 803 a1 0) * (1000 : Int32)) fun v27 => ix (mgI M26 800 a1 0) 64 <| nm (msI M26 4200 0 ((mgI M26 800 a1 0).toNatClampNeg) v27) fun M28 => some ((), M28)) else (nm (mgR M0 813 a1 0) fun o3 => fX9_weigh_l53 M0 a1 FU (0 : Int64) (0 : Int64) o3)
set_option maxHeartbeats 4000000 in
set_option maxRecDepth 100000 in
theorem mX9_weigh {l : Launch} {D : va_G} {cy : Nat → ClassId} {A : Nat → Prop} {K : KC} {nS nL : Nat} {ad : Nat → Nat → Nat} (hZk : ZOK A (ZC A K)) (x1 : Option Nat) (M0 : Mem) (hx1 : ∀ z, x1 = some z → z < (cnC nS nL) 8) (r : Unit) (M' : Mem) (h : fX9_weigh x1 M0 = some (r, M')) : Met l yX9_weigh (wt yX9_weigh cX9_weigh 9 none) (rm 1 40) (CPre D cy A (ZC A K) (cnC nS nL) ad M0 [.ref (ad 9 0), rv (ad 8) x1]) (QV D cy A (cnC nS nL) ad r M') 0 0 A := by
  refine tb_start [.ref (ad 9 0), rv (ad 8) x1] [(0, .ref (ad 9 0)), (1, rv (ad 8) x1)] RX9 rfl (by decide +kernel) (by simp [lg_sl, List.flatMap_cons, rv_cat, cat_r, cat_i, cat_l]) (by simp [lv_args, rv_cat, cat_r, cat_i, cat_l]) (fun p e s m args below meth c hx hb hr hml hown hts hlk hW hK hZ ls hl => ?_)
  have hS : va_S A s.heap s.heap [] := va_S.rf
  unfold fX9_weigh at h
  refine tb_aload_n hx hb dX9_weigh_0 rfl (lv_at hl 1 rfl) ?_
  replace h := oc_d h
  obtain ⟨a1, ea1, h⟩ := h
  subst ea1
  have la1 := hx1 _ rfl
  refine gtX9_55 hx hb hts hown hK hW la1 dX9_weigh_1 ?_
  refine lv_iconst (v := (1 : Int32)) hx hb dX9_weigh_4 (by decide) ?_
  refine lv_icmp_ne (tgt := 42) hx hb dX9_weigh_5 (by decide) (fun c2 => ?_) (fun c2 => ?_)
  · replace h := sh_f c2 h
    refine lv_lconst (v := (0 : Int64)) hx hb dX9_weigh_42 (by decide) ?_
    refine lv_lstore_n (lv' := [(2, .long (0 : Int64)), (0, .ref (ad 9 0)), (1, .ref (ad 8 a1))]) hx hb dX9_weigh_43 rfl hl (by decide) rfl (fun ls hl => ?_)
    refine lv_lconst (v := (0 : Int64)) hx hb dX9_weigh_44 (by decide) ?_
    refine lv_lstore (lv' := [(4, .long (0 : Int64)), (2, .long (0 : Int64)), (0, .ref (ad 9 0)), (1, .ref (ad 8 a1))]) hx hb dX9_weigh_45 hl (by decide) rfl (fun ls hl => ?_)
    refine lv_aload_n hx hb dX9_weigh_47 rfl (lv_at hl 3 rfl) ?_
    refine gtX9_67 hx hb hts hown hK hW la1 dX9_weigh_48 ?_
    refine tb_topr (fun o3 eo3 => ?_)
    replace h := nm_a eo3 h
    have ho3 : ∀ z, o3 = some z → z < (cnC nS nL) 4 := fun z hz => hW.ref 1 rfl (eo3.symm.trans hz)
    refine tb_astore (lv' := [(6, rv (ad 4) o3), (4, .long (0 : Int64)), (2, .long (0 : Int64)), (0, .ref (ad 9 0)), (1, .ref (ad 8 a1))]) hx hb dX9_weigh_51 hl (by decide) rfl (fun ls hl => ?_)
    have L4 : ∀ (n4 : Nat) (j5 : Int64) (j6 : Int64) (o7 : Option Nat) (H : Heap) (locs : List Loc) (ls : Array Slot), Wd D cy A (cnC nS nL) ad M0 H → va_S A s.heap H locs → lv_has ls 9 [(0, .ref (ad 9 0)), (1, .ref (ad 8 a1)), (2, .long j5), (4, .long j6), (6, rv (ad 4) o7)] → (∀ z, o7 = some z → z < (cnC nS nL) 4) → fX9_weigh_l53 M0 a1 n4 j5 j6 o7 = some (r, M') → W p l e (rm 1 40) s m args below meth c H locs 0 0 (MQ below (QV D cy A (cnC nS nL) ad r M') args s 0 0 A) (F0 m 53 ls []) := by
      intro n4
      induction n4 with
      | zero => intro j5 j6 o7 H locs ls hW hS hl ho7 h; cases h
      | succ n4 ih4 =>
        intro j5 j6 o7 H locs ls hW hS hl ho7 h
        unfold fX9_weigh_l53 fX9_weigh_b53 at h
        refine tb_aload hx hb dX9_weigh_53 (lv_at hl 4 rfl) ?_
        refine tb_ifnull (tgt := 151) hx hb dX9_weigh_55 (by decide) (fun e0 => ?_) (fun a8 ea8 => ?_)
        · replace h := oc_n e0 h
          subst e0
          refine lv_aload_n hx hb dX9_weigh_151 rfl (lv_at hl 0 rfl) ?_
          refine gtX9_9 hx hb hts hown hK hW cz9 dX9_weigh_152 ?_
          refine lv_aload_n hx hb dX9_weigh_155 rfl (lv_at hl 1 rfl) ?_
          refine gtX9_58 hx hb hts hown hK hW la1 dX9_weigh_156 ?_
          refine lv_lload_n hx hb dX9_weigh_159 rfl (lv_at hl 2 rfl) ?_
          refine lv_ldc2 hx hb hown (hts _ tw635) dX9_weigh_160 ?_
          refine va_mmin_long hx hb (hml.trans hl.1.symm) hown (hts _ tw636) (hts _ tw637) (hts _ tw91) (hts _ tw638) (Nat.le_of_ble_eq_true rfl) (by show _ ≤ _; exact Nat.le_of_ble_eq_true rfl) (Nat.le_refl _) (Nat.le_refl _) dX9_weigh_163 ?_
          refine lv_l2i hx hb dX9_weigh_166 rfl ?_
          refine lv_topi (fun v9 ev9 => ?_)
          replace h := nm_a ev9 h
          replace h := ix_a h
          obtain ⟨hj, h⟩ := h
          refine as41 hx hb hK hW hS cz41 hj dX9_weigh_167 (fun H locs hW hS => ?_)
          obtain ⟨M10, eM10⟩ : ∃ y, y = msI M0 4100 0 ((mgI M0 800 a1 0).toNatClampNeg) v9 := ⟨_, rfl⟩
          replace h := nm_a eM10 h
          rw [← eM10] at hW
          refine lv_aload_n hx hb dX9_weigh_168 rfl (lv_at hl 0 rfl) ?_
          refine gtX9_15 hx hb hts hown hK hW cz9 dX9_weigh_169 ?_
          refine lv_aload_n hx hb dX9_weigh_172 rfl (lv_at hl 1 rfl) ?_
          refine gtX9_58 hx hb hts hown hK hW la1 dX9_weigh_173 ?_
          refine lv_lload_n hx hb dX9_weigh_176 rfl (lv_at hl 2 rfl) ?_
          refine lv_lconst (v := (0 : Int64)) hx hb dX9_weigh_177 (by decide) ?_
          refine W.lcmp hx hb dX9_weigh_178 ?_
          refine lv_if_le (tgt := 192) hx hb dX9_weigh_179 (by decide) (fun c11 => ?_) (fun c11 => ?_)
          · replace h := sh_t c11 h
            refine lv_ldc hx hb hown (hts _ tw642) dX9_weigh_192 ?_
            replace h := ix_a h
            obtain ⟨hj, h⟩ := h
            refine as42 hx hb hK hW hS cz42 hj dX9_weigh_194 (fun H locs hW hS => ?_)
            obtain ⟨M12, eM12⟩ : ∃ y, y = msI M10 4200 0 ((mgI M10 800 a1 0).toNatClampNeg) (-2000000000 : Int32) := ⟨_, rfl⟩
            replace h := nm_a eM12 h
            rw [← eM12] at hW
            exact tb_vretE h hx hb hr hS hW hlk dX9_weigh_195
          · replace h := sh_f c11 h
            refine lv_lload hx hb dX9_weigh_182 (lv_at hl 3 rfl) ?_
            refine lv_lload_n hx hb dX9_weigh_184 rfl (lv_at hl 2 rfl) ?_
            replace h := bd_a h
            obtain ⟨g13, hcg13, h⟩ := h
            refine tb_cSL hZk hx hb hml hown hts hK hZ hW hS [.long j6, .long j5] (mJ9_floorDiv_f86c9 (l := l) hZk j6 j5 M10 g13 hcg13) pmJ9_floorDiv_f86c9 tw639 ⟨Nat.le_of_ble_eq_true rfl, Nat.le_of_ble_eq_true rfl⟩ rfl hl.1 (Nat.le_of_ble_eq_true rfl) ⟨Nat.le_refl _, Nat.le_refl _⟩ rfl dX9_weigh_185 (fun H locs hW hS => ?_)
            refine lv_l2i hx hb dX9_weigh_188 rfl ?_
            refine lv_goto (tgt := 194) hx hb dX9_weigh_189 (by decide) ?_
            refine lv_topi (fun v14 ev14 => ?_)
            replace h := nm_a ev14 h
            replace h := ix_a h
            obtain ⟨hj, h⟩ := h
            refine as42 hx hb hK hW hS cz42 hj dX9_weigh_194 (fun H locs hW hS => ?_)
            obtain ⟨M15, eM15⟩ : ∃ y, y = msI M10 4200 0 ((mgI M10 800 a1 0).toNatClampNeg) v14 := ⟨_, rfl⟩
            replace h := nm_a eM15 h
            rw [← eM15] at hW
            exact tb_vretE h hx hb hr hS hW hlk dX9_weigh_195
        · replace h := oc_s ea8 h
          subst ea8
          have la8 := ho7 _ rfl
          refine lv_aload hx hb dX9_weigh_58 (lv_at hl 4 rfl) ?_
          refine gtX9_71 hx hb hts hown hK hW la8 dX9_weigh_60 ?_
          refine lv_if_ne (tgt := 141) hx hb dX9_weigh_63 (by decide) (fun c16 => ?_) (fun c16 => ?_)
          · replace h := sh_f c16 h
            refine lv_aload hx hb dX9_weigh_141 (lv_at hl 4 rfl) ?_
            refine gtX9_88 hx hb hts hown hK hW la8 dX9_weigh_143 ?_
            refine tb_topr (fun o17 eo17 => ?_)
            replace h := nm_a eo17 h
            have ho17 : ∀ z, o17 = some z → z < (cnC nS nL) 4 := fun z hz => hW.ref 0 rfl (eo17.symm.trans hz)
            refine tb_astore (lv' := [(6, rv (ad 4) o17), (0, .ref (ad 9 0)), (1, .ref (ad 8 a1)), (2, .long j5), (4, .long j6)]) hx hb dX9_weigh_146 hl (by decide) rfl (fun ls hl => ?_)
            refine lv_goto (tgt := 53) hx hb dX9_weigh_148 (by decide) ?_
            exact ih4 j5 j6 o17 _ _ _ hW hS (lv_sub hl [1, 2, 3, 4, 0] rfl) ho17 h
          · replace h := sh_t c16 h
            refine lv_aload_n hx hb dX9_weigh_66 rfl (lv_at hl 0 rfl) ?_
            refine gtX9_9 hx hb hts hown hK hW cz9 dX9_weigh_67 ?_
            refine lv_aload hx hb dX9_weigh_70 (lv_at hl 4 rfl) ?_
            refine gtX9_77 hx hb hts hown hK hW la8 dX9_weigh_72 ?_
            replace h := ix_a h
            obtain ⟨hj, h⟩ := h
            refine al41 hx hb hK hW cz41 hj dX9_weigh_75 ?_
            refine lv_i2l hx hb dX9_weigh_76 rfl ?_
            refine lv_aload hx hb dX9_weigh_77 (lv_at hl 4 rfl) ?_
            refine gtX9_80 hx hb hts hown hK hW la8 dX9_weigh_79 ?_
            refine lv_i2l hx hb dX9_weigh_82 rfl ?_
            refine lv_lmul hx hb dX9_weigh_83 ?_
            refine lv_ldc2 hx hb hown (hts _ tw634) dX9_weigh_84 ?_
            refine lv_ldiv hx hb dX9_weigh_87 (by decide) ?_
            refine lv_topl (fun v18 ev18 => ?_)
            replace h := nm_a ev18 h
            refine lv_lstore (lv' := [(7, .long v18), (0, .ref (ad 9 0)), (1, .ref (ad 8 a1)), (2, .long j5), (4, .long j6), (6, .ref (ad 4 a8))]) hx hb dX9_weigh_88 hl (by decide) rfl (fun ls hl => ?_)
            refine lv_lload_n hx hb dX9_weigh_90 rfl (lv_at hl 3 rfl) ?_
            refine lv_lload hx hb dX9_weigh_91 (lv_at hl 0 rfl) ?_
            refine lv_ladd hx hb dX9_weigh_93 ?_
            refine lv_topl (fun v19 ev19 => ?_)
            replace h := nm_a ev19 h
            refine lv_lstore_n (lv' := [(2, .long v19), (7, .long v18), (0, .ref (ad 9 0)), (1, .ref (ad 8 a1)), (4, .long j6), (6, .ref (ad 4 a8))]) hx hb dX9_weigh_94 rfl hl (by decide) rfl (fun ls hl => ?_)
            refine lv_lload hx hb dX9_weigh_95 (lv_at hl 4 rfl) ?_
            refine lv_aload hx hb dX9_weigh_97 (lv_at hl 5 rfl) ?_
            refine gtX9_85 hx hb hts hown hK hW la8 dX9_weigh_99 ?_
            refine lv_iconst (v := (1 : Int32)) hx hb dX9_weigh_102 (by decide) ?_
            refine lv_icmp_ne (tgt := 124) hx hb dX9_weigh_103 (by decide) (fun c20 => ?_) (fun c20 => ?_)
            · replace h := sh_f c20 h
              refine lv_lload hx hb dX9_weigh_124 (lv_at hl 1 rfl) ?_
              refine lv_aload_n hx hb dX9_weigh_126 rfl (lv_at hl 2 rfl) ?_
              refine gtX9_15 hx hb hts hown hK hW cz9 dX9_weigh_127 ?_
              refine lv_aload hx hb dX9_weigh_130 (lv_at hl 5 rfl) ?_
              refine gtX9_77 hx hb hts hown hK hW la8 dX9_weigh_132 ?_
              replace h := ix_a h
              obtain ⟨hj, h⟩ := h
              refine al42 hx hb hK hW cz42 hj dX9_weigh_135 ?_
              refine lv_i2l hx hb dX9_weigh_136 rfl ?_
              refine lv_lmul hx hb dX9_weigh_137 ?_
              refine lv_ladd hx hb dX9_weigh_138 ?_
              refine lv_topl (fun v21 ev21 => ?_)
              replace h := nm_a ev21 h
              refine lv_lstore (lv' := [(4, .long v21), (2, .long v19), (7, .long v18), (0, .ref (ad 9 0)), (1, .ref (ad 8 a1)), (6, .ref (ad 4 a8))]) hx hb dX9_weigh_139 hl (by decide) rfl (fun ls hl => ?_)
              refine lv_aload hx hb dX9_weigh_141 (lv_at hl 5 rfl) ?_
              refine gtX9_88 hx hb hts hown hK hW la8 dX9_weigh_143 ?_
              refine tb_topr (fun o22 eo22 => ?_)
              replace h := nm_a eo22 h
              have ho22 : ∀ z, o22 = some z → z < (cnC nS nL) 4 := fun z hz => hW.ref 0 rfl (eo22.symm.trans hz)
              refine tb_astore (lv' := [(6, rv (ad 4) o22), (4, .long v21), (2, .long v19), (7, .long v18), (0, .ref (ad 9 0)), (1, .ref (ad 8 a1))]) hx hb dX9_weigh_146 hl (by decide) rfl (fun ls hl => ?_)
              refine lv_goto (tgt := 53) hx hb dX9_weigh_148 (by decide) ?_
              exact ih4 v19 v21 o22 _ _ _ hW hS (lv_sub hl [4, 5, 2, 1, 0] rfl) ho22 h
            · replace h := sh_t c20 h
              refine lv_lload hx hb dX9_weigh_106 (lv_at hl 1 rfl) ?_
              refine lv_lneg hx hb dX9_weigh_108 ?_
              refine lv_aload_n hx hb dX9_weigh_109 rfl (lv_at hl 2 rfl) ?_
              refine gtX9_15 hx hb hts hown hK hW cz9 dX9_weigh_110 ?_
              refine lv_aload hx hb dX9_weigh_113 (lv_at hl 5 rfl) ?_
              refine gtX9_77 hx hb hts hown hK hW la8 dX9_weigh_115 ?_
              replace h := ix_a h
              obtain ⟨hj, h⟩ := h
              refine al42 hx hb hK hW cz42 hj dX9_weigh_118 ?_
              refine lv_i2l hx hb dX9_weigh_119 rfl ?_
              refine lv_lmul hx hb dX9_weigh_120 ?_
              refine lv_goto (tgt := 138) hx hb dX9_weigh_121 (by decide) ?_
              refine lv_ladd hx hb dX9_weigh_138 ?_
              refine lv_topl (fun v23 ev23 => ?_)
              replace h := nm_a ev23 h
              refine lv_lstore (lv' := [(4, .long v23), (2, .long v19), (7, .long v18), (0, .ref (ad 9 0)), (1, .ref (ad 8 a1)), (6, .ref (ad 4 a8))]) hx hb dX9_weigh_139 hl (by decide) rfl (fun ls hl => ?_)
              refine lv_aload hx hb dX9_weigh_141 (lv_at hl 5 rfl) ?_
              refine gtX9_88 hx hb hts hown hK hW la8 dX9_weigh_143 ?_
              refine tb_topr (fun o24 eo24 => ?_)
              replace h := nm_a eo24 h
              have ho24 : ∀ z, o24 = some z → z < (cnC nS nL) 4 := fun z hz => hW.ref 0 rfl (eo24.symm.trans hz)
              refine tb_astore (lv' := [(6, rv (ad 4) o24), (4, .long v23), (2, .long v19), (7, .long v18), (0, .ref (ad 9 0)), (1, .ref (ad 8 a1))]) hx hb dX9_weigh_146 hl (by decide) rfl (fun ls hl => ?_)
              refine lv_goto (tgt := 53) hx hb dX9_weigh_148 (by decide) ?_
              exact ih4 v19 v23 o24 _ _ _ hW hS (lv_sub hl [4, 5, 2, 1, 0] rfl) ho24 h
    exact L4 FU (0 : Int64) (0 : Int64) o3 _ _ _ hW hS (lv_sub hl [3, 4, 2, 1, 0] rfl) ho3 h
  · replace h := sh_t c2 h
    refine lv_aload_n hx hb dX9_weigh_8 rfl (lv_at hl 0 rfl) ?_
    refine gtX9_9 hx hb hts hown hK hW cz9 dX9_weigh_9 ?_
    refine lv_aload_n hx hb dX9_weigh_12 rfl (lv_at hl 1 rfl) ?_
    refine gtX9_58 hx hb hts hown hK hW la1 dX9_weigh_13 ?_
    refine lv_aload_n hx hb dX9_weigh_16 rfl (lv_at hl 1 rfl) ?_
    refine gtX9_61 hx hb hts hown hK hW la1 dX9_weigh_17 ?_
    refine lv_bipush (v := (20 : Int32)) hx hb dX9_weigh_20 (by decide) ?_
    refine lv_imul hx hb dX9_weigh_22 ?_
    refine lv_topi (fun v25 ev25 => ?_)
    replace h := nm_a ev25 h
    replace h := ix_a h
    obtain ⟨hj, h⟩ := h
    refine as41 hx hb hK hW hS cz41 hj dX9_weigh_23 (fun H locs hW hS => ?_)
    obtain ⟨M26, eM26⟩ : ∃ y, y = msI M0 4100 0 ((mgI M0 800 a1 0).toNatClampNeg) v25 := ⟨_, rfl⟩
    replace h := nm_a eM26 h
    rw [← eM26] at hW
    refine lv_aload_n hx hb dX9_weigh_24 rfl (lv_at hl 0 rfl) ?_
    refine gtX9_15 hx hb hts hown hK hW cz9 dX9_weigh_25 ?_
    refine lv_aload_n hx hb dX9_weigh_28 rfl (lv_at hl 1 rfl) ?_
    refine gtX9_58 hx hb hts hown hK hW la1 dX9_weigh_29 ?_
    refine lv_aload_n hx hb dX9_weigh_32 rfl (lv_at hl 1 rfl) ?_
    refine gtX9_64 hx hb hts hown hK hW la1 dX9_weigh_33 ?_
    refine lv_sipush (v := (1000 : Int32)) hx hb dX9_weigh_36 (by decide) ?_
    refine lv_imul hx hb dX9_weigh_39 ?_
    refine lv_topi (fun v27 ev27 => ?_)
    replace h := nm_a ev27 h
    replace h := ix_a h
    obtain ⟨hj, h⟩ := h
    refine as42 hx hb hK hW hS cz42 hj dX9_weigh_40 (fun H locs hW hS => ?_)
    obtain ⟨M28, eM28⟩ : ∃ y, y = msI M26 4200 0 ((mgI M26 800 a1 0).toNatClampNeg) v27 := ⟨_, rfl⟩
    replace h := nm_a eM28 h
    rw [← eM28] at hW
    exact tb_vretE h hx hb hr hS hW hlk dX9_weigh_41
def fX9_lessened (x0 : Int32) (x1 : Int32) (x2 : Int32) : Int32 :=
  if x1 = (0 : Int32) then (((x0.toInt64 * (((10 : Int32) - x2).toInt64)) / (10 : Int64)).toInt32) else if x1 = (1 : Int32) then ((0 : Int32)) else if x1 = (2 : Int32) then (x0 / (2 : Int32)) else x0
set_option maxHeartbeats 4000000 in
set_option maxRecDepth 100000 in
theorem mX9_lessened {l : Launch} {D : va_G} {cy : Nat → ClassId} {A : Nat → Prop} {K : KC} {nS nL : Nat} {ad : Nat → Nat → Nat} (hZk : ZOK A (ZC A K)) (x0 : Int32) (x1 : Int32) (x2 : Int32) (M0 : Mem) (r : Int32) (h : fX9_lessened x0 x1 x2 = r) : Met l yX9_lessened (wt yX9_lessened cX9_lessened 3 (some .int)) (rm 0 0) (CPre D cy A (ZC A K) (cnC nS nL) ad M0 [.int x0, .int x1, .int x2]) (QI D cy A (cnC nS nL) ad r M0) 0 0 A := by
  refine tb_start [.int x0, .int x1, .int x2] [(0, .int x0), (1, .int x1), (2, .int x2)] RX9 rfl (by decide +kernel) (Nat.le_of_ble_eq_true rfl) rfl (fun p e s m args below meth c hx hb hr hml hown hts hlk hW hK hZ ls hl => ?_)
  have hS : va_S A s.heap s.heap [] := va_S.rf
  unfold fX9_lessened at h
  refine lv_iload_n hx hb dX9_lessened_0 rfl (lv_at hl 1 rfl) ?_
  by_cases c1 : x1 = (0 : Int32)
  · replace h := sh_t c1 h
    refine lv_tableIn (off := 27) (tgt := 28) hx hb dX9_lessened_1 (by rw [c1]; decide) (by rw [c1]; decide) (by rw [c1]; rfl) (by decide) ?_
    refine lv_iload_n hx hb dX9_lessened_28 rfl (lv_at hl 0 rfl) ?_
    refine lv_i2l hx hb dX9_lessened_29 rfl ?_
    refine lv_bipush (v := (10 : Int32)) hx hb dX9_lessened_30 (by decide) ?_
    refine lv_iload_n hx hb dX9_lessened_32 rfl (lv_at hl 2 rfl) ?_
    refine lv_isub hx hb dX9_lessened_33 ?_
    refine lv_i2l hx hb dX9_lessened_34 rfl ?_
    refine lv_lmul hx hb dX9_lessened_35 ?_
    refine lv_ldc2 hx hb hown (hts _ tw646) dX9_lessened_36 ?_
    refine lv_ldiv hx hb dX9_lessened_39 (by decide) ?_
    refine lv_l2i hx hb dX9_lessened_40 rfl ?_
    exact tb_iretP h hx hb hr hS hW hlk dX9_lessened_41
  · replace h := sh_f c1 h
    by_cases c2 : x1 = (1 : Int32)
    · replace h := sh_t c2 h
      refine lv_tableIn (off := 41) (tgt := 42) hx hb dX9_lessened_1 (by rw [c2]; decide) (by rw [c2]; decide) (by rw [c2]; rfl) (by decide) ?_
      refine lv_iconst (v := (0 : Int32)) hx hb dX9_lessened_42 (by decide) ?_
      exact tb_iretP h hx hb hr hS hW hlk dX9_lessened_43
    · replace h := sh_f c2 h
      by_cases c3 : x1 = (2 : Int32)
      · replace h := sh_t c3 h
        refine lv_tableIn (off := 43) (tgt := 44) hx hb dX9_lessened_1 (by rw [c3]; decide) (by rw [c3]; decide) (by rw [c3]; rfl) (by decide) ?_
        refine lv_iload_n hx hb dX9_lessened_44 rfl (lv_at hl 0 rfl) ?_
        refine lv_iconst (v := (2 : Int32)) hx hb dX9_lessened_45 (by decide) ?_
        refine lv_idiv hx hb dX9_lessened_46 (by decide) ?_
        exact tb_iretP h hx hb hr hS hW hlk dX9_lessened_47
      · replace h := sh_f c3 h
        refine lv_tableOut (tgt := 48) hx hb dX9_lessened_1 (sw_out x1 (by decide) (fun z h1 h2 => by
          rcases (show z = 0 ∨ z = 1 ∨ z = 2 by omega) with rfl | rfl | rfl <;> first | exact fun e => c1 (Int32.toInt_inj.mp (e.trans (by decide))) | exact fun e => c2 (Int32.toInt_inj.mp (e.trans (by decide))) | exact fun e => c3 (Int32.toInt_inj.mp (e.trans (by decide))))) (by decide) ?_
        refine lv_iload_n hx hb dX9_lessened_48 rfl (lv_at hl 0 rfl) ?_
        exact tb_iretP h hx hb hr hS hW hlk dX9_lessened_49
def fX9_work_b3 (x5 : Int64) (x1 : Int64) (x3 : Int64) (k1 : Int32 → Mem → Option (Unit × Mem)) (i2 : Int32) (M3 : Mem) : Option (Unit × Mem) :=
  if (mgI M3 502 0 0) ≤ i2 then (some ((), M3)) else (nm (fX11_isIn x5 i2) fun b5 => if b5 = 0 then (nm (i2 + (1 : Int32)) fun v7 => k1 v7 M3) else (ix i2 64 <| nm (mgR M3 3200 0 i2.toNatClampNeg) fun o8 => bE (fX9_weigh o8 M3) fun u9 M10 => nm (fX11_isIn x1 i2) fun b11 => if b11 = 0 then (nm (fX11_isIn x3 i2) fun b13 => if b13 = 0 then (oc o8 none fun a15 => nm (mgI M10 808 a15 0) fun v16 => ix i2 64 <| nm (fX9_lessened (mgI M10 4100 0 i2.toNatClampNeg) v16 (mgI M10 809 a15 0)) fun v17 => ix i2 64 <| nm (msI M10 4100 0 i2.toNatClampNeg v17) fun M18 => nm (i2 + (1 : Int32)) fun v19 => k1 v19 M18) else (ix i2 64 <| oc o8 none fun a20 => nm (fX9_lessened (mgI M10 4100 0 i2.toNatClampNeg) (-1 : Int32) (mgI M10 809 a20 0)) fun v21 => ix i2 64 <| nm (msI M10 4100 0 i2.toNatClampNeg v21) fun M22 => nm (i2 + (1 : Int32)) fun v23 => k1 v23 M22)) else (ix i2 64 <| oc o8 none fun a24 => nm (fX9_lessened (mgI M10 4100 0 i2.toNatClampNeg) (1 : Int32) (mgI M10 809 a24 0)) fun v25 => ix i2 64 <| nm (msI M10 4100 0 i2.toNatClampNeg v25) fun M26 => nm (i2 + (1 : Int32)) fun v27 => k1 v27 M26)))
def fX9_work_l3 (x5 : Int64) (x1 : Int64) (x3 : Int64) : Nat → Int32 → Mem → Option (Unit × Mem)
  | 0, _, _ => none
  | n + 1, i2, M3 => fX9_work_b3 x5 x1 x3 (fX9_work_l3 x5 x1 x3 n) i2 M3
def fX9_work (x1 : Int64) (x3 : Int64) (x5 : Int64) (M0 : Mem) : Option (Unit × Mem) :=
  fX9_work_l3 x5 x1 x3 FU (0 : Int32) M0
set_option maxHeartbeats 4000000 in
set_option maxRecDepth 100000 in
theorem mX9_work {l : Launch} {D : va_G} {cy : Nat → ClassId} {A : Nat → Prop} {K : KC} {nS nL : Nat} {ad : Nat → Nat → Nat} (hZk : ZOK A (ZC A K)) (x1 : Int64) (x3 : Int64) (x5 : Int64) (M0 : Mem) (r : Unit) (M' : Mem) (h : fX9_work x1 x3 x5 M0 = some (r, M')) : Met l yX9_work (wt yX9_work cX9_work 10 none) (rm 2 68) (CPre D cy A (ZC A K) (cnC nS nL) ad M0 [.ref (ad 9 0), .long x1, .long x3, .long x5]) (QV D cy A (cnC nS nL) ad r M') 0 0 A := by
  refine tb_start [.ref (ad 9 0), .long x1, .long x3, .long x5] [(0, .ref (ad 9 0)), (1, .long x1), (3, .long x3), (5, .long x5)] RX9 rfl (by decide +kernel) (Nat.le_of_ble_eq_true rfl) rfl (fun p e s m args below meth c hx hb hr hml hown hts hlk hW hK hZ ls hl => ?_)
  have hS : va_S A s.heap s.heap [] := va_S.rf
  unfold fX9_work at h
  refine lv_iconst (v := (0 : Int32)) hx hb dX9_work_0 (by decide) ?_
  refine lv_istore (lv' := [(7, .int (0 : Int32)), (0, .ref (ad 9 0)), (1, .long x1), (3, .long x3), (5, .long x5)]) hx hb dX9_work_1 hl (by decide) rfl (fun ls hl => ?_)
  have L1 : ∀ (n1 : Nat) (i2 : Int32) (M3 : Mem) (H : Heap) (locs : List Loc) (ls : Array Slot), Wd D cy A (cnC nS nL) ad M3 H → va_S A s.heap H locs → lv_has ls 10 [(0, .ref (ad 9 0)), (1, .long x1), (3, .long x3), (5, .long x5), (7, .int i2)] → fX9_work_l3 x5 x1 x3 n1 i2 M3 = some (r, M') → W p l e (rm 2 68) s m args below meth c H locs 0 0 (MQ below (QV D cy A (cnC nS nL) ad r M') args s 0 0 A) (F0 m 3 ls []) := by
    intro n1
    induction n1 with
    | zero => intro i2 M3 H locs ls hW hS hl h; cases h
    | succ n1 ih1 =>
      intro i2 M3 H locs ls hW hS hl h
      unfold fX9_work_l3 fX9_work_b3 at h
      refine lv_iload hx hb dX9_work_3 (lv_at hl 4 rfl) ?_
      refine lv_aload_n hx hb dX9_work_5 rfl (lv_at hl 0 rfl) ?_
      refine gtX9_21 hx hb hts hown hK hW cz9 dX9_work_6 ?_
      refine gtX9_25 hx hb hts hown hK hW cz5 dX9_work_9 ?_
      refine lv_icmp_ge (tgt := 106) hx hb dX9_work_12 (by decide) (fun c4 => ?_) (fun c4 => ?_)
      · replace h := sh_t c4 h
        exact tb_vretE h hx hb hr hS hW hlk dX9_work_106
      · replace h := sh_f c4 h
        refine lv_lload hx hb dX9_work_15 (lv_at hl 3 rfl) ?_
        refine lv_iload hx hb dX9_work_17 (lv_at hl 4 rfl) ?_
        refine tb_cNZ hZk hx hb hml hown hts hK hZ hW hS [.long x5, .int i2] (mX11_isIn (l := l) hZk x5 i2 M3 (fX11_isIn x5 i2) rfl) pmX11_isIn (hZ.2.2.2.2.2.1 8 _ rfl) ⟨Nat.le_of_ble_eq_true rfl, Nat.le_of_ble_eq_true rfl⟩ rfl hl.1 (Nat.le_of_ble_eq_true rfl) ⟨Nat.le_refl _, Nat.le_refl _⟩ rfl dX9_work_19 (fun H locs hW hS hzz => ?_)
        refine lv_topi (fun b5 eb5 => ?_)
        replace h := nm_a eb5 h
        have hzb5 : b5 = 0 ∨ b5 = 1 := by rw [eb5]; exact hzz
        refine lv_if_eq (tgt := 100) hx hb dX9_work_22 (by decide) (fun c6 => ?_) (fun c6 => ?_)
        · replace h := sh_t c6 h
          obtain ⟨v7, ev7⟩ : ∃ y : Int32, y = i2 + (1 : Int32) := ⟨_, rfl⟩
          replace h := nm_a ev7 h
          refine lv_iinc (v := v7) (lv' := [(7, .int v7), (0, .ref (ad 9 0)), (1, .long x1), (3, .long x3), (5, .long x5)]) hx hb dX9_work_100 hl (k := 4) rfl (by rw [ev7]; rfl) (by decide) rfl (fun ls hl => ?_)
          refine lv_goto (tgt := 3) hx hb dX9_work_103 (by decide) ?_
          exact ih1 v7 M3 _ _ _ hW hS (lv_sub hl [1, 2, 3, 4, 0] rfl) h
        · replace h := sh_f c6 h
          refine lv_aload_n hx hb dX9_work_25 rfl (lv_at hl 0 rfl) ?_
          refine gtX9_21 hx hb hts hown hK hW cz9 dX9_work_26 ?_
          refine gtX9_35 hx hb hts hown hK hW cz5 dX9_work_29 ?_
          refine lv_iload hx hb dX9_work_32 (lv_at hl 4 rfl) ?_
          replace h := ix_a h
          obtain ⟨hj, h⟩ := h
          refine al32 hx hb hK hW cz32 hj dX9_work_34 (fun o8 eo8 ho8 => ?_)
          replace h := nm_a eo8 h
          refine tb_astore (lv' := [(8, rv (ad 8) o8), (0, .ref (ad 9 0)), (1, .long x1), (3, .long x3), (5, .long x5), (7, .int i2)]) hx hb dX9_work_35 hl (by decide) rfl (fun ls hl => ?_)
          refine lv_aload_n hx hb dX9_work_37 rfl (lv_at hl 1 rfl) ?_
          refine tb_aload hx hb dX9_work_38 (lv_at hl 0 rfl) ?_
          replace h := bE_a h
          obtain ⟨u9, M10, hcu9, h⟩ := h
          refine tb_cVV hZk hx hb hml hown hts hK hZ hW hS [rv (ad 8) o8] (mX9_weigh (l := l) hZk o8 M3 ho8 u9 M10 hcu9) pmX9_weigh tw630 (Wd.recv hK hW (t := 9) (by decide) cz9 (C := RX9) (T := TX9) (N := 4) rfl) ⟨Nat.le_of_ble_eq_true rfl, Nat.le_of_ble_eq_true rfl⟩ rfl hl.1 (Nat.le_of_ble_eq_true rfl) ⟨Nat.le_refl _, Nat.le_refl _⟩ rfl dX9_work_40 (fun H locs hW hS => ?_)
          refine lv_lload_n hx hb dX9_work_43 rfl (lv_at hl 2 rfl) ?_
          refine lv_iload hx hb dX9_work_44 (lv_at hl 5 rfl) ?_
          refine tb_cNZ hZk hx hb hml hown hts hK hZ hW hS [.long x1, .int i2] (mX11_isIn (l := l) hZk x1 i2 M10 (fX11_isIn x1 i2) rfl) pmX11_isIn (hZ.2.2.2.2.2.1 8 _ rfl) ⟨Nat.le_of_ble_eq_true rfl, Nat.le_of_ble_eq_true rfl⟩ rfl hl.1 (Nat.le_of_ble_eq_true rfl) ⟨Nat.le_refl _, Nat.le_refl _⟩ rfl dX9_work_46 (fun H locs hW hS hzz => ?_)
          refine lv_topi (fun b11 eb11 => ?_)
          replace h := nm_a eb11 h
          have hzb11 : b11 = 0 ∨ b11 = 1 := by rw [eb11]; exact hzz
          refine lv_if_eq (tgt := 56) hx hb dX9_work_49 (by decide) (fun c12 => ?_) (fun c12 => ?_)
          · replace h := sh_t c12 h
            refine lv_lload_n hx hb dX9_work_56 rfl (lv_at hl 3 rfl) ?_
            refine lv_iload hx hb dX9_work_57 (lv_at hl 5 rfl) ?_
            refine tb_cNZ hZk hx hb hml hown hts hK hZ hW hS [.long x3, .int i2] (mX11_isIn (l := l) hZk x3 i2 M10 (fX11_isIn x3 i2) rfl) pmX11_isIn (hZ.2.2.2.2.2.1 8 _ rfl) ⟨Nat.le_of_ble_eq_true rfl, Nat.le_of_ble_eq_true rfl⟩ rfl hl.1 (Nat.le_of_ble_eq_true rfl) ⟨Nat.le_refl _, Nat.le_refl _⟩ rfl dX9_work_59 (fun H locs hW hS hzz => ?_)
            refine lv_topi (fun b13 eb13 => ?_)
            replace h := nm_a eb13 h
            have hzb13 : b13 = 0 ∨ b13 = 1 := by rw [eb13]; exact hzz
            refine lv_if_eq (tgt := 69) hx hb dX9_work_62 (by decide) (fun c14 => ?_) (fun c14 => ?_)
            · replace h := sh_t c14 h
              refine tb_aload hx hb dX9_work_69 (lv_at hl 0 rfl) ?_
              replace h := oc_d h
              obtain ⟨a15, ea15, h⟩ := h
              subst ea15
              have la15 := ho8 _ rfl
              refine gtX9_43 hx hb hts hown hK hW la15 dX9_work_71 ?_
              refine lv_topi (fun v16 ev16 => ?_)
              replace h := nm_a ev16 h
              refine lv_istore (lv' := [(9, .int v16), (8, .ref (ad 8 a15)), (0, .ref (ad 9 0)), (1, .long x1), (3, .long x3), (5, .long x5), (7, .int i2)]) hx hb dX9_work_74 hl (by decide) rfl (fun ls hl => ?_)
              refine lv_aload_n hx hb dX9_work_76 rfl (lv_at hl 2 rfl) ?_
              refine gtX9_9 hx hb hts hown hK hW cz9 dX9_work_77 ?_
              refine lv_iload hx hb dX9_work_80 (lv_at hl 6 rfl) ?_
              refine lv_aload_n hx hb dX9_work_82 rfl (lv_at hl 2 rfl) ?_
              refine gtX9_9 hx hb hts hown hK hW cz9 dX9_work_83 ?_
              refine lv_iload hx hb dX9_work_86 (lv_at hl 6 rfl) ?_
              replace h := ix_a h
              obtain ⟨hj, h⟩ := h
              refine al41 hx hb hK hW cz41 hj dX9_work_88 ?_
              refine lv_iload hx hb dX9_work_89 (lv_at hl 0 rfl) ?_
              refine lv_aload hx hb dX9_work_91 (lv_at hl 1 rfl) ?_
              refine gtX9_48 hx hb hts hown hK hW la15 dX9_work_93 ?_
              refine tb_cSI hZk hx hb hml hown hts hK hZ hW hS [.int (mgI M10 4100 0 i2.toNatClampNeg), .int v16, .int (mgI M10 809 a15 0)] (mX9_lessened (l := l) hZk (mgI M10 4100 0 i2.toNatClampNeg) v16 (mgI M10 809 a15 0) M10 (fX9_lessened (mgI M10 4100 0 i2.toNatClampNeg) v16 (mgI M10 809 a15 0)) rfl) pmX9_lessened tw643 ⟨Nat.le_of_ble_eq_true rfl, Nat.le_of_ble_eq_true rfl⟩ rfl hl.1 (Nat.le_of_ble_eq_true rfl) ⟨Nat.le_refl _, Nat.le_refl _⟩ rfl dX9_work_96 (fun H locs hW hS => ?_)
              refine lv_topi (fun v17 ev17 => ?_)
              replace h := nm_a ev17 h
              replace h := ix_a h
              obtain ⟨hj, h⟩ := h
              refine as41 hx hb hK hW hS cz41 hj dX9_work_99 (fun H locs hW hS => ?_)
              obtain ⟨M18, eM18⟩ : ∃ y, y = msI M10 4100 0 i2.toNatClampNeg v17 := ⟨_, rfl⟩
              replace h := nm_a eM18 h
              rw [← eM18] at hW
              obtain ⟨v19, ev19⟩ : ∃ y : Int32, y = i2 + (1 : Int32) := ⟨_, rfl⟩
              replace h := nm_a ev19 h
              refine lv_iinc (v := v19) (lv' := [(7, .int v19), (9, .int v16), (8, .ref (ad 8 a15)), (0, .ref (ad 9 0)), (1, .long x1), (3, .long x3), (5, .long x5)]) hx hb dX9_work_100 hl (k := 6) rfl (by rw [ev19]; rfl) (by decide) rfl (fun ls hl => ?_)
              refine lv_goto (tgt := 3) hx hb dX9_work_103 (by decide) ?_
              exact ih1 v19 M18 _ _ _ hW hS (lv_sub hl [3, 4, 5, 6, 0] rfl) h
            · replace h := sh_f c14 h
              refine lv_iconst (v := (-1 : Int32)) hx hb dX9_work_65 (by decide) ?_
              refine lv_goto (tgt := 74) hx hb dX9_work_66 (by decide) ?_
              refine lv_istore (lv' := [(9, .int (-1 : Int32)), (8, rv (ad 8) o8), (0, .ref (ad 9 0)), (1, .long x1), (3, .long x3), (5, .long x5), (7, .int i2)]) hx hb dX9_work_74 hl (by decide) (by simp [List.filter, rv_cat]) (fun ls hl => ?_)
              refine lv_aload_n hx hb dX9_work_76 rfl (lv_at hl 2 rfl) ?_
              refine gtX9_9 hx hb hts hown hK hW cz9 dX9_work_77 ?_
              refine lv_iload hx hb dX9_work_80 (lv_at hl 6 rfl) ?_
              refine lv_aload_n hx hb dX9_work_82 rfl (lv_at hl 2 rfl) ?_
              refine gtX9_9 hx hb hts hown hK hW cz9 dX9_work_83 ?_
              refine lv_iload hx hb dX9_work_86 (lv_at hl 6 rfl) ?_
              replace h := ix_a h
              obtain ⟨hj, h⟩ := h
              refine al41 hx hb hK hW cz41 hj dX9_work_88 ?_
              refine lv_iload hx hb dX9_work_89 (lv_at hl 0 rfl) ?_
              refine tb_aload hx hb dX9_work_91 (lv_at hl 1 rfl) ?_
              replace h := oc_d h
              obtain ⟨a20, ea20, h⟩ := h
              subst ea20
              have la20 := ho8 _ rfl
              refine gtX9_48 hx hb hts hown hK hW la20 dX9_work_93 ?_
              refine tb_cSI hZk hx hb hml hown hts hK hZ hW hS [.int (mgI M10 4100 0 i2.toNatClampNeg), .int (-1 : Int32), .int (mgI M10 809 a20 0)] (mX9_lessened (l := l) hZk (mgI M10 4100 0 i2.toNatClampNeg) (-1 : Int32) (mgI M10 809 a20 0) M10 (fX9_lessened (mgI M10 4100 0 i2.toNatClampNeg) (-1 : Int32) (mgI M10 809 a20 0)) rfl) pmX9_lessened tw643 ⟨Nat.le_of_ble_eq_true rfl, Nat.le_of_ble_eq_true rfl⟩ rfl hl.1 (Nat.le_of_ble_eq_true rfl) ⟨Nat.le_refl _, Nat.le_refl _⟩ rfl dX9_work_96 (fun H locs hW hS => ?_)
              refine lv_topi (fun v21 ev21 => ?_)
              replace h := nm_a ev21 h
              replace h := ix_a h
              obtain ⟨hj, h⟩ := h
              refine as41 hx hb hK hW hS cz41 hj dX9_work_99 (fun H locs hW hS => ?_)
              obtain ⟨M22, eM22⟩ : ∃ y, y = msI M10 4100 0 i2.toNatClampNeg v21 := ⟨_, rfl⟩
              replace h := nm_a eM22 h
              rw [← eM22] at hW
              obtain ⟨v23, ev23⟩ : ∃ y : Int32, y = i2 + (1 : Int32) := ⟨_, rfl⟩
              replace h := nm_a ev23 h
              refine lv_iinc (v := v23) (lv' := [(7, .int v23), (9, .int (-1 : Int32)), (8, .ref (ad 8 a20)), (0, .ref (ad 9 0)), (1, .long x1), (3, .long x3), (5, .long x5)]) hx hb dX9_work_100 hl (k := 6) rfl (by rw [ev23]; rfl) (by decide) rfl (fun ls hl => ?_)
              refine lv_goto (tgt := 3) hx hb dX9_work_103 (by decide) ?_
              exact ih1 v23 M22 _ _ _ hW hS (lv_sub hl [3, 4, 5, 6, 0] rfl) h
          · replace h := sh_f c12 h
            refine lv_iconst (v := (1 : Int32)) hx hb dX9_work_52 (by decide) ?_
            refine lv_goto (tgt := 74) hx hb dX9_work_53 (by decide) ?_
            refine lv_istore (lv' := [(9, .int (1 : Int32)), (8, rv (ad 8) o8), (0, .ref (ad 9 0)), (1, .long x1), (3, .long x3), (5, .long x5), (7, .int i2)]) hx hb dX9_work_74 hl (by decide) (by simp [List.filter, rv_cat]) (fun ls hl => ?_)
            refine lv_aload_n hx hb dX9_work_76 rfl (lv_at hl 2 rfl) ?_
            refine gtX9_9 hx hb hts hown hK hW cz9 dX9_work_77 ?_
            refine lv_iload hx hb dX9_work_80 (lv_at hl 6 rfl) ?_
            refine lv_aload_n hx hb dX9_work_82 rfl (lv_at hl 2 rfl) ?_
            refine gtX9_9 hx hb hts hown hK hW cz9 dX9_work_83 ?_
            refine lv_iload hx hb dX9_work_86 (lv_at hl 6 rfl) ?_
            replace h := ix_a h
            obtain ⟨hj, h⟩ := h
            refine al41 hx hb hK hW cz41 hj dX9_work_88 ?_
            refine lv_iload hx hb dX9_work_89 (lv_at hl 0 rfl) ?_
            refine tb_aload hx hb dX9_work_91 (lv_at hl 1 rfl) ?_
            replace h := oc_d h
            obtain ⟨a24, ea24, h⟩ := h
            subst ea24
            have la24 := ho8 _ rfl
            refine gtX9_48 hx hb hts hown hK hW la24 dX9_work_93 ?_
            refine tb_cSI hZk hx hb hml hown hts hK hZ hW hS [.int (mgI M10 4100 0 i2.toNatClampNeg), .int (1 : Int32), .int (mgI M10 809 a24 0)] (mX9_lessened (l := l) hZk (mgI M10 4100 0 i2.toNatClampNeg) (1 : Int32) (mgI M10 809 a24 0) M10 (fX9_lessened (mgI M10 4100 0 i2.toNatClampNeg) (1 : Int32) (mgI M10 809 a24 0)) rfl) pmX9_lessened tw643 ⟨Nat.le_of_ble_eq_true rfl, Nat.le_of_ble_eq_true rfl⟩ rfl hl.1 (Nat.le_of_ble_eq_true rfl) ⟨Nat.le_refl _, Nat.le_refl _⟩ rfl dX9_work_96 (fun H locs hW hS => ?_)
            refine lv_topi (fun v25 ev25 => ?_)
            replace h := nm_a ev25 h
            replace h := ix_a h
            obtain ⟨hj, h⟩ := h
            refine as41 hx hb hK hW hS cz41 hj dX9_work_99 (fun H locs hW hS => ?_)
            obtain ⟨M26, eM26⟩ : ∃ y, y = msI M10 4100 0 i2.toNatClampNeg v25 := ⟨_, rfl⟩
            replace h := nm_a eM26 h
            rw [← eM26] at hW
            obtain ⟨v27, ev27⟩ : ∃ y : Int32, y = i2 + (1 : Int32) := ⟨_, rfl⟩
            replace h := nm_a ev27 h
            refine lv_iinc (v := v27) (lv' := [(7, .int v27), (9, .int (1 : Int32)), (8, .ref (ad 8 a24)), (0, .ref (ad 9 0)), (1, .long x1), (3, .long x3), (5, .long x5)]) hx hb dX9_work_100 hl (k := 6) rfl (by rw [ev27]; rfl) (by decide) rfl (fun ls hl => ?_)
            refine lv_goto (tgt := 3) hx hb dX9_work_103 (by decide) ?_
            exact ih1 v27 M26 _ _ _ hW hS (lv_sub hl [3, 4, 5, 6, 0] rfl) h
  exact L1 FU (0 : Int32) M0 _ _ _ hW hS (lv_sub hl [1, 2, 3, 4, 0] rfl) h
