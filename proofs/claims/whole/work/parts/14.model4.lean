def fX12_share (x1 : Int32) (x2 : Int32) (M0 : Mem) : Option Int32 :=
  nm (fX12_isStone x1 M0) fun b1 => if b1 = 0 then (some (-1 : Int32)) else (nm (fX12_in x2 (0 : Int32) (19 : Int32)) fun b3 => if b3 = 0 then (some (-1 : Int32)) else (ix (((20 : Int32) * x1) + x2) 1280 <| if (mgI M0 8700 0 (((20 : Int32) * x1) + x2).toNatClampNeg) ≤ 0 then (some (-1 : Int32)) else (bd (fX12_shareOf x1 x2 M0) fun b6 => some b6)))
set_option maxHeartbeats 4000000 in
set_option maxRecDepth 100000 in
theorem mX12_share {l : Launch} {D : va_G} {cy : Nat → ClassId} {A : Nat → Prop} {Z : State → Heap → Prop} {ad : Nat → Nat → Nat} (hZk : ZOK A Z) (x1 : Int32) (x2 : Int32) (M0 : Mem) (r : Int32) (h : fX12_share x1 x2 M0 = some r) : Met l yX12_share (wt yX12_share cX12_share 3 (some .int)) (rm 2 43) (CPre D cy A Z cnM ad M0 [.ref (ad 12 0), .int x1, .int x2]) (QI D cy A cnM ad r M0) 0 0 A := by
  refine tb_start [.ref (ad 12 0), .int x1, .int x2] [(0, .ref (ad 12 0)), (1, .int x1), (2, .int x2)] RX12 rfl (by decide +kernel) (Nat.le_of_ble_eq_true rfl) rfl (fun p e s m args below meth c hx hb hr hml hown hts hlk hW hK hZ ls hl => ?_)
  have hS : va_S A s.heap s.heap [] := va_S.rf
  unfold fX12_share at h
  refine lv_aload_n hx hb dX12_share_0 rfl (lv_at hl 0 rfl) ?_
  refine lv_iload_n hx hb dX12_share_1 rfl (lv_at hl 1 rfl) ?_
  refine tb_cVZ hZk hx hb hml hown hts hK hZ hW hS [.int x1] (mX12_isStone (l := l) hZk x1 M0 (fX12_isStone x1 M0) rfl) pmX12_isStone tw1415 (Wd.recv hK hW (t := 12) (by decide) cz12 (C := RX12) (T := TX12) (N := 58) rfl) ⟨Nat.le_of_ble_eq_true rfl, Nat.le_of_ble_eq_true rfl⟩ rfl hl.1 (Nat.le_of_ble_eq_true rfl) ⟨Nat.le_refl _, Nat.le_refl _⟩ rfl dX12_share_2 (fun H locs hW hS hzz => ?_)
  refine lv_topi (fun b1 eb1 => ?_)
  have h := nm_a eb1 h
  have hzb1 : b1 = 0 ∨ b1 = 1 := by rw [eb1]; exact hzz
  refine lv_if_eq (tgt := 41) hx hb dX12_share_5 (by decide) (fun c2 => ?_) (fun c2 => ?_)
  · have h := sh_t c2 h
    refine lv_iconst (v := (-1 : Int32)) hx hb dX12_share_41 (by decide) ?_
    exact tb_iretO h hx hb hr hS hW hlk dX12_share_42
  · have h := sh_f c2 h
    refine lv_iload_n hx hb dX12_share_8 rfl (lv_at hl 2 rfl) ?_
    refine lv_iconst (v := (0 : Int32)) hx hb dX12_share_9 (by decide) ?_
    refine lv_bipush (v := (19 : Int32)) hx hb dX12_share_10 (by decide) ?_
    refine tb_cSZ hZk hx hb hml hown hts hK hZ hW hS [.int x2, .int (0 : Int32), .int (19 : Int32)] (mX12_in (l := l) hZk x2 (0 : Int32) (19 : Int32) M0 (fX12_in x2 (0 : Int32) (19 : Int32)) rfl) pmX12_in tw1401 ⟨Nat.le_of_ble_eq_true rfl, Nat.le_of_ble_eq_true rfl⟩ rfl hl.1 (Nat.le_of_ble_eq_true rfl) ⟨Nat.le_refl _, Nat.le_refl _⟩ rfl dX12_share_12 (fun H locs hW hS hzz => ?_)
    refine lv_topi (fun b3 eb3 => ?_)
    have h := nm_a eb3 h
    have hzb3 : b3 = 0 ∨ b3 = 1 := by rw [eb3]; exact hzz
    refine lv_if_eq (tgt := 41) hx hb dX12_share_15 (by decide) (fun c4 => ?_) (fun c4 => ?_)
    · have h := sh_t c4 h
      refine lv_iconst (v := (-1 : Int32)) hx hb dX12_share_41 (by decide) ?_
      exact tb_iretO h hx hb hr hS hW hlk dX12_share_42
    · have h := sh_f c4 h
      refine lv_aload_n hx hb dX12_share_18 rfl (lv_at hl 0 rfl) ?_
      refine gtX12_125 hx hb hts hown hK hW cz12 dX12_share_19 ?_
      refine lv_bipush (v := (20 : Int32)) hx hb dX12_share_22 (by decide) ?_
      refine lv_iload_n hx hb dX12_share_24 rfl (lv_at hl 1 rfl) ?_
      refine lv_imul hx hb dX12_share_25 ?_
      refine lv_iload_n hx hb dX12_share_26 rfl (lv_at hl 2 rfl) ?_
      refine lv_iadd hx hb dX12_share_27 ?_
      obtain ⟨hj, h⟩ := ix_a h
      refine al87 hx hb hK hW cz87 hj dX12_share_28 ?_
      refine lv_if_le (tgt := 41) hx hb dX12_share_29 (by decide) (fun c5 => ?_) (fun c5 => ?_)
      · have h := sh_t c5 h
        refine lv_iconst (v := (-1 : Int32)) hx hb dX12_share_41 (by decide) ?_
        exact tb_iretO h hx hb hr hS hW hlk dX12_share_42
      · have h := sh_f c5 h
        refine lv_aload_n hx hb dX12_share_32 rfl (lv_at hl 0 rfl) ?_
        refine lv_iload_n hx hb dX12_share_33 rfl (lv_at hl 1 rfl) ?_
        refine lv_iload_n hx hb dX12_share_34 rfl (lv_at hl 2 rfl) ?_
        obtain ⟨b6, hcb6, h⟩ := bd_a h
        refine tb_cVI hZk hx hb hml hown hts hK hZ hW hS [.int x1, .int x2] (mX12_shareOf (l := l) hZk x1 x2 M0 b6 hcb6) pmX12_shareOf tw1683 (Wd.recv hK hW (t := 12) (by decide) cz12 (C := RX12) (T := TX12) (N := 58) rfl) ⟨Nat.le_of_ble_eq_true rfl, Nat.le_of_ble_eq_true rfl⟩ rfl hl.1 (Nat.le_of_ble_eq_true rfl) ⟨Nat.le_refl _, Nat.le_refl _⟩ rfl dX12_share_35 (fun H locs hW hS => ?_)
        refine lv_goto (tgt := 42) hx hb dX12_share_38 (by decide) ?_
        exact tb_iretO h hx hb hr hS hW hlk dX12_share_42
def fX12_fair_b16 (M0 : Mem) (x1 : Int32) (k3 : Int32 → Int32 → Option Int32) (i4 : Int32) (i5 : Int32) : Option Int32 :=
  if (mgI M0 1202 0 0) ≤ i5 then (some i4) else (ix i5 64 <| if (mgI M0 5400 0 i5.toNatClampNeg) < 0 then (nm (i5 + (1 : Int32)) fun v8 => k3 i4 v8) else (bd (fX12_shareOf i5 x1 M0) fun b9 => nm (i4 + b9) fun v10 => nm (i5 + (1 : Int32)) fun v11 => k3 v10 v11))
def fX12_fair_l16 (M0 : Mem) (x1 : Int32) : Nat → Int32 → Int32 → Option Int32
  | 0, _, _ => none
  | n + 1, i4, i5 => fX12_fair_b16 M0 x1 (fX12_fair_l16 M0 x1 n) i4 i5
def fX12_fair (x1 : Int32) (M0 : Mem) : Option Int32 :=
  nm (fX12_in x1 (0 : Int32) (19 : Int32)) fun b1 => if b1 = 0 then (some (-1 : Int32)) else (fX12_fair_l16 M0 x1 FU (0 : Int32) (0 : Int32))
set_option maxHeartbeats 4000000 in
set_option maxRecDepth 100000 in
theorem mX12_fair {l : Launch} {D : va_G} {cy : Nat → ClassId} {A : Nat → Prop} {Z : State → Heap → Prop} {ad : Nat → Nat → Nat} (hZk : ZOK A Z) (x1 : Int32) (M0 : Mem) (r : Int32) (h : fX12_fair x1 M0 = some r) : Met l yX12_fair (wt yX12_fair cX12_fair 4 (some .int)) (rm 1 24) (CPre D cy A Z cnM ad M0 [.ref (ad 12 0), .int x1]) (QI D cy A cnM ad r M0) 0 0 A := by
  refine tb_start [.ref (ad 12 0), .int x1] [(0, .ref (ad 12 0)), (1, .int x1)] RX12 rfl (by decide +kernel) (Nat.le_of_ble_eq_true rfl) rfl (fun p e s m args below meth c hx hb hr hml hown hts hlk hW hK hZ ls hl => ?_)
  have hS : va_S A s.heap s.heap [] := va_S.rf
  unfold fX12_fair at h
  refine lv_iload_n hx hb dX12_fair_0 rfl (lv_at hl 1 rfl) ?_
  refine lv_iconst (v := (0 : Int32)) hx hb dX12_fair_1 (by decide) ?_
  refine lv_bipush (v := (19 : Int32)) hx hb dX12_fair_2 (by decide) ?_
  refine tb_cSZ hZk hx hb hml hown hts hK hZ hW hS [.int x1, .int (0 : Int32), .int (19 : Int32)] (mX12_in (l := l) hZk x1 (0 : Int32) (19 : Int32) M0 (fX12_in x1 (0 : Int32) (19 : Int32)) rfl) pmX12_in tw1401 ⟨Nat.le_of_ble_eq_true rfl, Nat.le_of_ble_eq_true rfl⟩ rfl hl.1 (Nat.le_of_ble_eq_true rfl) ⟨Nat.le_refl _, Nat.le_refl _⟩ rfl dX12_fair_4 (fun H locs hW hS hzz => ?_)
  refine lv_topi (fun b1 eb1 => ?_)
  have h := nm_a eb1 h
  have hzb1 : b1 = 0 ∨ b1 = 1 := by rw [eb1]; exact hzz
  refine lv_if_ne (tgt := 12) hx hb dX12_fair_7 (by decide) (fun c2 => ?_) (fun c2 => ?_)
  · have h := sh_f c2 h
    refine lv_iconst (v := (0 : Int32)) hx hb dX12_fair_12 (by decide) ?_
    refine lv_istore_n (lv' := [(2, .int (0 : Int32)), (0, .ref (ad 12 0)), (1, .int x1)]) hx hb dX12_fair_13 rfl hl (by decide) rfl (fun ls hl => ?_)
    refine lv_iconst (v := (0 : Int32)) hx hb dX12_fair_14 (by decide) ?_
    refine lv_istore_n (lv' := [(3, .int (0 : Int32)), (2, .int (0 : Int32)), (0, .ref (ad 12 0)), (1, .int x1)]) hx hb dX12_fair_15 rfl hl (by decide) rfl (fun ls hl => ?_)
    have L3 : ∀ (n3 : Nat) (i4 : Int32) (i5 : Int32) (H : Heap) (locs : List Loc) (ls : Array Slot), Wd D cy A cnM ad M0 H → va_S A s.heap H locs → lv_has ls 4 [(0, .ref (ad 12 0)), (1, .int x1), (2, .int i4), (3, .int i5)] → fX12_fair_l16 M0 x1 n3 i4 i5 = some r → W p l e (rm 1 24) s m args below meth c H locs 0 0 (MQ below (QI D cy A cnM ad r M0) args s 0 0 A) (F0 m 16 ls []) := by
      intro n3
      induction n3 with
      | zero => intro i4 i5 H locs ls hW hS hl h; cases h
      | succ n3 ih3 =>
        intro i4 i5 H locs ls hW hS hl h
        unfold fX12_fair_l16 fX12_fair_b16 at h
        refine lv_iload_n hx hb dX12_fair_16 rfl (lv_at hl 3 rfl) ?_
        refine lv_aload_n hx hb dX12_fair_17 rfl (lv_at hl 0 rfl) ?_
        refine gtX12_147 hx hb hts hown hK hW cz12 dX12_fair_18 ?_
        refine lv_icmp_ge (tgt := 48) hx hb dX12_fair_21 (by decide) (fun c6 => ?_) (fun c6 => ?_)
        · have h := sh_t c6 h
          refine lv_iload_n hx hb dX12_fair_48 rfl (lv_at hl 2 rfl) ?_
          exact tb_iretO h hx hb hr hS hW hlk dX12_fair_49
        · have h := sh_f c6 h
          refine lv_aload_n hx hb dX12_fair_24 rfl (lv_at hl 0 rfl) ?_
          refine gtX12_22 hx hb hts hown hK hW cz12 dX12_fair_25 ?_
          refine lv_iload_n hx hb dX12_fair_28 rfl (lv_at hl 3 rfl) ?_
          obtain ⟨hj, h⟩ := ix_a h
          refine al54 hx hb hK hW cz54 hj dX12_fair_29 ?_
          refine lv_if_lt (tgt := 42) hx hb dX12_fair_30 (by decide) (fun c7 => ?_) (fun c7 => ?_)
          · have h := sh_t c7 h
            obtain ⟨v8, ev8⟩ : ∃ y : Int32, y = i5 + (1 : Int32) := ⟨_, rfl⟩
            have h := nm_a ev8 h
            refine lv_iinc (v := v8) (lv' := [(3, .int v8), (0, .ref (ad 12 0)), (1, .int x1), (2, .int i4)]) hx hb dX12_fair_42 hl (k := 3) rfl (by rw [ev8]; rfl) (by decide) rfl (fun ls hl => ?_)
            refine lv_goto (tgt := 16) hx hb dX12_fair_45 (by decide) ?_
            exact ih3 i4 v8 _ _ _ hW hS (lv_sub hl [1, 2, 3, 0] rfl) h
          · have h := sh_f c7 h
            refine lv_iload_n hx hb dX12_fair_33 rfl (lv_at hl 2 rfl) ?_
            refine lv_aload_n hx hb dX12_fair_34 rfl (lv_at hl 0 rfl) ?_
            refine lv_iload_n hx hb dX12_fair_35 rfl (lv_at hl 3 rfl) ?_
            refine lv_iload_n hx hb dX12_fair_36 rfl (lv_at hl 1 rfl) ?_
            obtain ⟨b9, hcb9, h⟩ := bd_a h
            refine tb_cVI hZk hx hb hml hown hts hK hZ hW hS [.int i5, .int x1] (mX12_shareOf (l := l) hZk i5 x1 M0 b9 hcb9) pmX12_shareOf tw1683 (Wd.recv hK hW (t := 12) (by decide) cz12 (C := RX12) (T := TX12) (N := 58) rfl) ⟨Nat.le_of_ble_eq_true rfl, Nat.le_of_ble_eq_true rfl⟩ rfl hl.1 (Nat.le_of_ble_eq_true rfl) ⟨Nat.le_refl _, Nat.le_refl _⟩ rfl dX12_fair_37 (fun H locs hW hS => ?_)
            refine lv_iadd hx hb dX12_fair_40 ?_
            refine lv_topi (fun v10 ev10 => ?_)
            have h := nm_a ev10 h
            refine lv_istore_n (lv' := [(2, .int v10), (0, .ref (ad 12 0)), (1, .int x1), (3, .int i5)]) hx hb dX12_fair_41 rfl hl (by decide) rfl (fun ls hl => ?_)
            obtain ⟨v11, ev11⟩ : ∃ y : Int32, y = i5 + (1 : Int32) := ⟨_, rfl⟩
            have h := nm_a ev11 h
            refine lv_iinc (v := v11) (lv' := [(3, .int v11), (2, .int v10), (0, .ref (ad 12 0)), (1, .int x1)]) hx hb dX12_fair_42 hl (k := 3) rfl (by rw [ev11]; rfl) (by decide) rfl (fun ls hl => ?_)
            refine lv_goto (tgt := 16) hx hb dX12_fair_45 (by decide) ?_
            exact ih3 v10 v11 _ _ _ hW hS (lv_sub hl [2, 3, 1, 0] rfl) h
    exact L3 FU (0 : Int32) (0 : Int32) _ _ _ hW hS (lv_sub hl [2, 3, 1, 0] rfl) h
  · have h := sh_t c2 h
    refine lv_iconst (v := (-1 : Int32)) hx hb dX12_fair_10 (by decide) ?_
    exact tb_iretO h hx hb hr hS hW hlk dX12_fair_11
def fX12_handsOf_b4 (x1 : Int32) (M0 : Mem) (k1 : Int32 → Int32 → Option Int32) (i2 : Int32) (i3 : Int32) : Option Int32 :=
  if (20 : Int32) ≤ i3 then (some i2) else (ix (((20 : Int32) * x1) + i3) 1280 <| if (mgI M0 8700 0 (((20 : Int32) * x1) + i3).toNatClampNeg) ≤ 0 then (nm (i3 + (1 : Int32)) fun v6 => k1 i2 v6) else (nm (i2 ||| ((1 : Int32) <<< (i3 &&& 31))) fun v7 => nm (i3 + (1 : Int32)) fun v8 => k1 v7 v8))
def fX12_handsOf_l4 (x1 : Int32) (M0 : Mem) : Nat → Int32 → Int32 → Option Int32
  | 0, _, _ => none
  | n + 1, i2, i3 => fX12_handsOf_b4 x1 M0 (fX12_handsOf_l4 x1 M0 n) i2 i3
def fX12_handsOf (x1 : Int32) (M0 : Mem) : Option Int32 :=
  fX12_handsOf_l4 x1 M0 FU (0 : Int32) (0 : Int32)
set_option maxHeartbeats 4000000 in
set_option maxRecDepth 100000 in
theorem mX12_handsOf {l : Launch} {D : va_G} {cy : Nat → ClassId} {A : Nat → Prop} {Z : State → Heap → Prop} {ad : Nat → Nat → Nat} (hZk : ZOK A Z) (x1 : Int32) (M0 : Mem) (r : Int32) (h : fX12_handsOf x1 M0 = some r) : Met l yX12_handsOf (wt yX12_handsOf cX12_handsOf 4 (some .int)) (rm 0 0) (CPre D cy A Z cnM ad M0 [.ref (ad 12 0), .int x1]) (QI D cy A cnM ad r M0) 0 0 A := by
  refine tb_start [.ref (ad 12 0), .int x1] [(0, .ref (ad 12 0)), (1, .int x1)] RX12 rfl (by decide +kernel) (Nat.le_of_ble_eq_true rfl) rfl (fun p e s m args below meth c hx hb hr hml hown hts hlk hW hK hZ ls hl => ?_)
  have hS : va_S A s.heap s.heap [] := va_S.rf
  unfold fX12_handsOf at h
  refine lv_iconst (v := (0 : Int32)) hx hb dX12_handsOf_0 (by decide) ?_
  refine lv_istore_n (lv' := [(2, .int (0 : Int32)), (0, .ref (ad 12 0)), (1, .int x1)]) hx hb dX12_handsOf_1 rfl hl (by decide) rfl (fun ls hl => ?_)
  refine lv_iconst (v := (0 : Int32)) hx hb dX12_handsOf_2 (by decide) ?_
  refine lv_istore_n (lv' := [(3, .int (0 : Int32)), (2, .int (0 : Int32)), (0, .ref (ad 12 0)), (1, .int x1)]) hx hb dX12_handsOf_3 rfl hl (by decide) rfl (fun ls hl => ?_)
  have L1 : ∀ (n1 : Nat) (i2 : Int32) (i3 : Int32) (H : Heap) (locs : List Loc) (ls : Array Slot), Wd D cy A cnM ad M0 H → va_S A s.heap H locs → lv_has ls 4 [(0, .ref (ad 12 0)), (1, .int x1), (2, .int i2), (3, .int i3)] → fX12_handsOf_l4 x1 M0 n1 i2 i3 = some r → W p l e (rm 0 0) s m args below meth c H locs 0 0 (MQ below (QI D cy A cnM ad r M0) args s 0 0 A) (F0 m 4 ls []) := by
    intro n1
    induction n1 with
    | zero => intro i2 i3 H locs ls hW hS hl h; cases h
    | succ n1 ih1 =>
      intro i2 i3 H locs ls hW hS hl h
      unfold fX12_handsOf_l4 fX12_handsOf_b4 at h
      refine lv_iload_n hx hb dX12_handsOf_4 rfl (lv_at hl 3 rfl) ?_
      refine lv_bipush (v := (20 : Int32)) hx hb dX12_handsOf_5 (by decide) ?_
      refine lv_icmp_ge (tgt := 36) hx hb dX12_handsOf_7 (by decide) (fun c4 => ?_) (fun c4 => ?_)
      · have h := sh_t c4 h
        refine lv_iload_n hx hb dX12_handsOf_36 rfl (lv_at hl 2 rfl) ?_
        exact tb_iretO h hx hb hr hS hW hlk dX12_handsOf_37
      · have h := sh_f c4 h
        refine lv_aload_n hx hb dX12_handsOf_10 rfl (lv_at hl 0 rfl) ?_
        refine gtX12_125 hx hb hts hown hK hW cz12 dX12_handsOf_11 ?_
        refine lv_bipush (v := (20 : Int32)) hx hb dX12_handsOf_14 (by decide) ?_
        refine lv_iload_n hx hb dX12_handsOf_16 rfl (lv_at hl 1 rfl) ?_
        refine lv_imul hx hb dX12_handsOf_17 ?_
        refine lv_iload_n hx hb dX12_handsOf_18 rfl (lv_at hl 3 rfl) ?_
        refine lv_iadd hx hb dX12_handsOf_19 ?_
        obtain ⟨hj, h⟩ := ix_a h
        refine al87 hx hb hK hW cz87 hj dX12_handsOf_20 ?_
        refine lv_if_le (tgt := 30) hx hb dX12_handsOf_21 (by decide) (fun c5 => ?_) (fun c5 => ?_)
        · have h := sh_t c5 h
          obtain ⟨v6, ev6⟩ : ∃ y : Int32, y = i3 + (1 : Int32) := ⟨_, rfl⟩
          have h := nm_a ev6 h
          refine lv_iinc (v := v6) (lv' := [(3, .int v6), (0, .ref (ad 12 0)), (1, .int x1), (2, .int i2)]) hx hb dX12_handsOf_30 hl (k := 3) rfl (by rw [ev6]; rfl) (by decide) rfl (fun ls hl => ?_)
          refine lv_goto (tgt := 4) hx hb dX12_handsOf_33 (by decide) ?_
          exact ih1 i2 v6 _ _ _ hW hS (lv_sub hl [1, 2, 3, 0] rfl) h
        · have h := sh_f c5 h
          refine lv_iload_n hx hb dX12_handsOf_24 rfl (lv_at hl 2 rfl) ?_
          refine lv_iconst (v := (1 : Int32)) hx hb dX12_handsOf_25 (by decide) ?_
          refine lv_iload_n hx hb dX12_handsOf_26 rfl (lv_at hl 3 rfl) ?_
          refine lv_ishl hx hb dX12_handsOf_27 ?_
          refine lv_ior hx hb dX12_handsOf_28 ?_
          refine lv_topi (fun v7 ev7 => ?_)
          have h := nm_a ev7 h
          refine lv_istore_n (lv' := [(2, .int v7), (0, .ref (ad 12 0)), (1, .int x1), (3, .int i3)]) hx hb dX12_handsOf_29 rfl hl (by decide) rfl (fun ls hl => ?_)
          obtain ⟨v8, ev8⟩ : ∃ y : Int32, y = i3 + (1 : Int32) := ⟨_, rfl⟩
          have h := nm_a ev8 h
          refine lv_iinc (v := v8) (lv' := [(3, .int v8), (2, .int v7), (0, .ref (ad 12 0)), (1, .int x1)]) hx hb dX12_handsOf_30 hl (k := 3) rfl (by rw [ev8]; rfl) (by decide) rfl (fun ls hl => ?_)
          refine lv_goto (tgt := 4) hx hb dX12_handsOf_33 (by decide) ?_
          exact ih1 v7 v8 _ _ _ hW hS (lv_sub hl [2, 3, 1, 0] rfl) h
  exact L1 FU (0 : Int32) (0 : Int32) _ _ _ hW hS (lv_sub hl [2, 3, 1, 0] rfl) h
def fX12_hands_b77 (M5 : Mem) (i11 : Int32) (x2 : Int32) (j12 : Int64) (k10 : Int32 → Int64 → Option (Int32 × Mem)) (i7 : Int32) (k13 : Int32 → Int32 → Option (Int32 × Mem)) (i14 : Int32) (i15 : Int32) : Option (Int32 × Mem) :=
  if (mgI M5 1202 0 0) ≤ i15 then (if 0 ≤ i14 then (if i11 = x2 then (some (i14, M5)) else (nm (j12 ||| ((1 : Int64) <<< (i14.toInt64 &&& 63))) fun v19 => nm (i11 + (1 : Int32)) fun v20 => k10 v20 v19)) else (if 0 ≤ x2 then (some ((-1 : Int32), M5)) else (some (i11, M5)))) else (ix i15 64 <| if (mgI M5 5000 0 i15.toNatClampNeg) = (1 : Int32) then (ix i15 64 <| if 0 ≤ (mgI M5 5400 0 i15.toNatClampNeg) then (nm (i15 + (1 : Int32)) fun v25 => k13 i14 v25) else (if (lg_cmp ((j12 >>> (i15.toInt64 &&& 63)) &&& (1 : Int64)) (1 : Int64)) = 0 then (nm (i15 + (1 : Int32)) fun v27 => k13 i14 v27) else (bd (fX12_handsOf i15 M5) fun b28 => if (b28 &&& i7) = 0 then (nm (i15 + (1 : Int32)) fun v37 => k13 i14 v37) else (if i14 < 0 then (nm (i15 + (1 : Int32)) fun v31 => k13 i15 v31) else (ix i15 64 <| bd (fX12_bitsOf (mgL M5 6500 0 i15.toNatClampNeg)) fun b32 => ix i14 64 <| bd (fX12_bitsOf (mgL M5 6500 0 i14.toNatClampNeg)) fun b33 => if b32 ≤ b33 then (nm (i15 + (1 : Int32)) fun v35 => k13 i14 v35) else (nm (i15 + (1 : Int32)) fun v36 => k13 i15 v36)))))) else (nm (i15 + (1 : Int32)) fun v23 => k13 i14 v23))
def fX12_hands_l77 (M5 : Mem) (i11 : Int32) (x2 : Int32) (j12 : Int64) (k10 : Int32 → Int64 → Option (Int32 × Mem)) (i7 : Int32) : Nat → Int32 → Int32 → Option (Int32 × Mem)
  | 0, _, _ => none
  | n + 1, i14, i15 => fX12_hands_b77 M5 i11 x2 j12 k10 i7 (fX12_hands_l77 M5 i11 x2 j12 k10 i7 n) i14 i15
def fX12_hands_b71 (M5 : Mem) (x2 : Int32) (i7 : Int32) (k10 : Int32 → Int64 → Option (Int32 × Mem)) (i11 : Int32) (j12 : Int64) : Option (Int32 × Mem) :=
  fX12_hands_l77 M5 i11 x2 j12 k10 i7 FU (-1 : Int32) (0 : Int32)
def fX12_hands_l71 (M5 : Mem) (x2 : Int32) (i7 : Int32) : Nat → Int32 → Int64 → Option (Int32 × Mem)
  | 0, _, _ => none
  | n + 1, i11, j12 => fX12_hands_b71 M5 x2 i7 (fX12_hands_l71 M5 x2 i7 n) i11 j12
def fX12_hands_b26 (M5 : Mem) (x2 : Int32) (x1 : Int32) (k6 : Int32 → Int32 → Option (Int32 × Mem)) (i7 : Int32) (i8 : Int32) : Option (Int32 × Mem) :=
  if (mgI M5 1202 0 0) ≤ i8 then (fX12_hands_l71 M5 x2 i7 FU (0 : Int32) (0 : Int64)) else (ix (((20 : Int32) * i8) + x1) 1280 <| if (mgI M5 8700 0 (((20 : Int32) * i8) + x1).toNatClampNeg) ≤ 0 then (nm (i8 + (1 : Int32)) fun v39 => k6 i7 v39) else (bd (fX12_handsOf i8 M5) fun b40 => nm (i7 ||| b40) fun v41 => nm (i8 + (1 : Int32)) fun v42 => k6 v41 v42))
def fX12_hands_l26 (M5 : Mem) (x2 : Int32) (x1 : Int32) : Nat → Int32 → Int32 → Option (Int32 × Mem)
  | 0, _, _ => none
  | n + 1, i7, i8 => fX12_hands_b26 M5 x2 x1 (fX12_hands_l26 M5 x2 x1 n) i7 i8
def fX12_hands (x1 : Int32) (x2 : Int32) (M0 : Mem) : Option (Int32 × Mem) :=
  nm (fX12_in x1 (0 : Int32) (19 : Int32)) fun b1 => if b1 = 0 then (some ((-1 : Int32), M0)) else (if (-1 : Int32) ≤ x2 then (bE (fX12_findStanding M0) fun u4 M5 => fX12_hands_l26 M5 x2 x1 FU (0 : Int32) (0 : Int32)) else (some ((-1 : Int32), M0)))
set_option maxHeartbeats 4000000 in
set_option maxRecDepth 100000 in
theorem mX12_hands {l : Launch} {D : va_G} {cy : Nat → ClassId} {A : Nat → Prop} {Z : State → Heap → Prop} {ad : Nat → Nat → Nat} (hZk : ZOK A Z) (x1 : Int32) (x2 : Int32) (M0 : Mem) (r : Int32) (M' : Mem) (h : fX12_hands x1 x2 M0 = some (r, M')) : Met l yX12_hands (wt yX12_hands cX12_hands 9 (some .int)) (rm 1 24) (CPre D cy A Z cnM ad M0 [.ref (ad 12 0), .int x1, .int x2]) (QI D cy A cnM ad r M') 0 0 A := by
  refine tb_start [.ref (ad 12 0), .int x1, .int x2] [(0, .ref (ad 12 0)), (1, .int x1), (2, .int x2)] RX12 rfl (by decide +kernel) (Nat.le_of_ble_eq_true rfl) rfl (fun p e s m args below meth c hx hb hr hml hown hts hlk hW hK hZ ls hl => ?_)
  have hS : va_S A s.heap s.heap [] := va_S.rf
  unfold fX12_hands at h
  refine lv_iload_n hx hb dX12_hands_0 rfl (lv_at hl 1 rfl) ?_
  refine lv_iconst (v := (0 : Int32)) hx hb dX12_hands_1 (by decide) ?_
  refine lv_bipush (v := (19 : Int32)) hx hb dX12_hands_2 (by decide) ?_
  refine tb_cSZ hZk hx hb hml hown hts hK hZ hW hS [.int x1, .int (0 : Int32), .int (19 : Int32)] (mX12_in (l := l) hZk x1 (0 : Int32) (19 : Int32) M0 (fX12_in x1 (0 : Int32) (19 : Int32)) rfl) pmX12_in tw1401 ⟨Nat.le_of_ble_eq_true rfl, Nat.le_of_ble_eq_true rfl⟩ rfl hl.1 (Nat.le_of_ble_eq_true rfl) ⟨Nat.le_refl _, Nat.le_refl _⟩ rfl dX12_hands_4 (fun H locs hW hS hzz => ?_)
  refine lv_topi (fun b1 eb1 => ?_)
  have h := nm_a eb1 h
  have hzb1 : b1 = 0 ∨ b1 = 1 := by rw [eb1]; exact hzz
  refine lv_if_eq (tgt := 15) hx hb dX12_hands_7 (by decide) (fun c2 => ?_) (fun c2 => ?_)
  · have h := sh_t c2 h
    refine lv_iconst (v := (-1 : Int32)) hx hb dX12_hands_15 (by decide) ?_
    exact tb_iretE h hx hb hr hS hW hlk dX12_hands_16
  · have h := sh_f c2 h
    refine lv_iload_n hx hb dX12_hands_10 rfl (lv_at hl 2 rfl) ?_
    refine lv_iconst (v := (-1 : Int32)) hx hb dX12_hands_11 (by decide) ?_
    refine lv_icmp_ge (tgt := 17) hx hb dX12_hands_12 (by decide) (fun c3 => ?_) (fun c3 => ?_)
    · have h := sh_t c3 h
      refine lv_aload_n hx hb dX12_hands_17 rfl (lv_at hl 0 rfl) ?_
      obtain ⟨u4, M5, hcu4, h⟩ := bE_a h
      refine tb_cVV hZk hx hb hml hown hts hK hZ hW hS [] (mX12_findStanding (l := l) hZk M0 u4 M5 hcu4) pmX12_findStanding tw1439 (Wd.recv hK hW (t := 12) (by decide) cz12 (C := RX12) (T := TX12) (N := 58) rfl) ⟨Nat.le_of_ble_eq_true rfl, Nat.le_of_ble_eq_true rfl⟩ rfl hl.1 (Nat.le_of_ble_eq_true rfl) ⟨Nat.le_refl _, Nat.le_refl _⟩ rfl dX12_hands_18 (fun H locs hW hS => ?_)
      refine lv_iconst (v := (0 : Int32)) hx hb dX12_hands_21 (by decide) ?_
      refine lv_istore_n (lv' := [(3, .int (0 : Int32)), (0, .ref (ad 12 0)), (1, .int x1), (2, .int x2)]) hx hb dX12_hands_22 rfl hl (by decide) rfl (fun ls hl => ?_)
      refine lv_iconst (v := (0 : Int32)) hx hb dX12_hands_23 (by decide) ?_
      refine lv_istore (lv' := [(4, .int (0 : Int32)), (3, .int (0 : Int32)), (0, .ref (ad 12 0)), (1, .int x1), (2, .int x2)]) hx hb dX12_hands_24 hl (by decide) rfl (fun ls hl => ?_)
      have L6 : ∀ (n6 : Nat) (i7 : Int32) (i8 : Int32) (H : Heap) (locs : List Loc) (ls : Array Slot), Wd D cy A cnM ad M5 H → va_S A s.heap H locs → lv_has ls 9 [(0, .ref (ad 12 0)), (1, .int x1), (2, .int x2), (3, .int i7), (4, .int i8)] → fX12_hands_l26 M5 x2 x1 n6 i7 i8 = some (r, M') → W p l e (rm 1 24) s m args below meth c H locs 0 0 (MQ below (QI D cy A cnM ad r M') args s 0 0 A) (F0 m 26 ls []) := by
        intro n6
        induction n6 with
        | zero => intro i7 i8 H locs ls hW hS hl h; cases h
        | succ n6 ih6 =>
          intro i7 i8 H locs ls hW hS hl h
          unfold fX12_hands_l26 fX12_hands_b26 at h
          refine lv_iload hx hb dX12_hands_26 (lv_at hl 4 rfl) ?_
          refine lv_aload_n hx hb dX12_hands_28 rfl (lv_at hl 0 rfl) ?_
          refine gtX12_147 hx hb hts hown hK hW cz12 dX12_hands_29 ?_
          refine lv_icmp_ge (tgt := 65) hx hb dX12_hands_32 (by decide) (fun c9 => ?_) (fun c9 => ?_)
          · have h := sh_t c9 h
            refine lv_iconst (v := (0 : Int32)) hx hb dX12_hands_65 (by decide) ?_
            refine lv_istore (lv' := [(4, .int (0 : Int32)), (0, .ref (ad 12 0)), (1, .int x1), (2, .int x2), (3, .int i7)]) hx hb dX12_hands_66 hl (by decide) rfl (fun ls hl => ?_)
            refine lv_lconst (v := (0 : Int64)) hx hb dX12_hands_68 (by decide) ?_
            refine lv_lstore (lv' := [(5, .long (0 : Int64)), (4, .int (0 : Int32)), (0, .ref (ad 12 0)), (1, .int x1), (2, .int x2), (3, .int i7)]) hx hb dX12_hands_69 hl (by decide) rfl (fun ls hl => ?_)
            have L10 : ∀ (n10 : Nat) (i11 : Int32) (j12 : Int64) (H : Heap) (locs : List Loc) (ls : Array Slot), Wd D cy A cnM ad M5 H → va_S A s.heap H locs → lv_has ls 9 [(0, .ref (ad 12 0)), (2, .int x2), (3, .int i7), (4, .int i11), (5, .long j12)] → fX12_hands_l71 M5 x2 i7 n10 i11 j12 = some (r, M') → W p l e (rm 1 24) s m args below meth c H locs 0 0 (MQ below (QI D cy A cnM ad r M') args s 0 0 A) (F0 m 71 ls []) := by
              intro n10
              induction n10 with
              | zero => intro i11 j12 H locs ls hW hS hl h; cases h
              | succ n10 ih10 =>
                intro i11 j12 H locs ls hW hS hl h
                unfold fX12_hands_l71 fX12_hands_b71 at h
                refine lv_iconst (v := (-1 : Int32)) hx hb dX12_hands_71 (by decide) ?_
                refine lv_istore (lv' := [(7, .int (-1 : Int32)), (0, .ref (ad 12 0)), (2, .int x2), (3, .int i7), (4, .int i11), (5, .long j12)]) hx hb dX12_hands_72 hl (by decide) rfl (fun ls hl => ?_)
                refine lv_iconst (v := (0 : Int32)) hx hb dX12_hands_74 (by decide) ?_
                refine lv_istore (lv' := [(8, .int (0 : Int32)), (7, .int (-1 : Int32)), (0, .ref (ad 12 0)), (2, .int x2), (3, .int i7), (4, .int i11), (5, .long j12)]) hx hb dX12_hands_75 hl (by decide) rfl (fun ls hl => ?_)
                have L13 : ∀ (n13 : Nat) (i14 : Int32) (i15 : Int32) (H : Heap) (locs : List Loc) (ls : Array Slot), Wd D cy A cnM ad M5 H → va_S A s.heap H locs → lv_has ls 9 [(0, .ref (ad 12 0)), (2, .int x2), (3, .int i7), (4, .int i11), (5, .long j12), (7, .int i14), (8, .int i15)] → fX12_hands_l77 M5 i11 x2 j12 (fX12_hands_l71 M5 x2 i7 n10) i7 n13 i14 i15 = some (r, M') → W p l e (rm 1 24) s m args below meth c H locs 0 0 (MQ below (QI D cy A cnM ad r M') args s 0 0 A) (F0 m 77 ls []) := by
                  intro n13
                  induction n13 with
                  | zero => intro i14 i15 H locs ls hW hS hl h; cases h
                  | succ n13 ih13 =>
                    intro i14 i15 H locs ls hW hS hl h
                    unfold fX12_hands_l77 fX12_hands_b77 at h
                    refine lv_iload hx hb dX12_hands_77 (lv_at hl 6 rfl) ?_
                    refine lv_aload_n hx hb dX12_hands_79 rfl (lv_at hl 0 rfl) ?_
                    refine gtX12_147 hx hb hts hown hK hW cz12 dX12_hands_80 ?_
                    refine lv_icmp_ge (tgt := 171) hx hb dX12_hands_83 (by decide) (fun c16 => ?_) (fun c16 => ?_)
                    · have h := sh_t c16 h
                      refine lv_iload hx hb dX12_hands_171 (lv_at hl 5 rfl) ?_
                      refine lv_if_ge (tgt := 179) hx hb dX12_hands_173 (by decide) (fun c17 => ?_) (fun c17 => ?_)
                      · have h := sh_t c17 h
                        refine lv_iload hx hb dX12_hands_179 (lv_at hl 3 rfl) ?_
                        refine lv_iload_n hx hb dX12_hands_181 rfl (lv_at hl 1 rfl) ?_
                        refine lv_icmp_ne (tgt := 188) hx hb dX12_hands_182 (by decide) (fun c18 => ?_) (fun c18 => ?_)
                        · have h := sh_f c18 h
                          refine lv_lload hx hb dX12_hands_188 (lv_at hl 4 rfl) ?_
                          refine lv_lconst (v := (1 : Int64)) hx hb dX12_hands_190 (by decide) ?_
                          refine lv_iload hx hb dX12_hands_191 (lv_at hl 5 rfl) ?_
                          refine lv_lshl hx hb dX12_hands_193 rfl ?_
                          refine lv_lor hx hb dX12_hands_194 ?_
                          refine lv_topl (fun v19 ev19 => ?_)
                          have h := nm_a ev19 h
                          refine lv_lstore (lv' := [(5, .long v19), (0, .ref (ad 12 0)), (2, .int x2), (3, .int i7), (4, .int i11), (7, .int i14), (8, .int i15)]) hx hb dX12_hands_195 hl (by decide) rfl (fun ls hl => ?_)
                          obtain ⟨v20, ev20⟩ : ∃ y : Int32, y = i11 + (1 : Int32) := ⟨_, rfl⟩
                          have h := nm_a ev20 h
                          refine lv_iinc (v := v20) (lv' := [(4, .int v20), (5, .long v19), (0, .ref (ad 12 0)), (2, .int x2), (3, .int i7), (7, .int i14), (8, .int i15)]) hx hb dX12_hands_197 hl (k := 4) rfl (by rw [ev20]; rfl) (by decide) rfl (fun ls hl => ?_)
                          refine lv_goto (tgt := 71) hx hb dX12_hands_200 (by decide) ?_
                          exact ih10 v20 v19 _ _ _ hW hS (lv_sub hl [2, 3, 4, 0, 1] rfl) h
                        · have h := sh_t c18 h
                          refine lv_iload hx hb dX12_hands_185 (lv_at hl 5 rfl) ?_
                          exact tb_iretE h hx hb hr hS hW hlk dX12_hands_187
                      · have h := sh_f c17 h
                        refine lv_goto (tgt := 203) hx hb dX12_hands_176 (by decide) ?_
                        refine lv_iload_n hx hb dX12_hands_203 rfl (lv_at hl 1 rfl) ?_
                        refine lv_if_ge (tgt := 212) hx hb dX12_hands_204 (by decide) (fun c21 => ?_) (fun c21 => ?_)
                        · have h := sh_t c21 h
                          refine lv_iconst (v := (-1 : Int32)) hx hb dX12_hands_212 (by decide) ?_
                          exact tb_iretE h hx hb hr hS hW hlk dX12_hands_213
                        · have h := sh_f c21 h
                          refine lv_iload hx hb dX12_hands_207 (lv_at hl 3 rfl) ?_
                          refine lv_goto (tgt := 213) hx hb dX12_hands_209 (by decide) ?_
                          exact tb_iretE h hx hb hr hS hW hlk dX12_hands_213
                    · have h := sh_f c16 h
                      refine lv_aload_n hx hb dX12_hands_86 rfl (lv_at hl 0 rfl) ?_
                      refine gtX12_7 hx hb hts hown hK hW cz12 dX12_hands_87 ?_
                      refine lv_iload hx hb dX12_hands_90 (lv_at hl 6 rfl) ?_
                      obtain ⟨hj, h⟩ := ix_a h
                      refine al50 hx hb hK hW cz50 hj dX12_hands_92 ?_
                      refine lv_iconst (v := (1 : Int32)) hx hb dX12_hands_93 (by decide) ?_
                      refine lv_icmp_ne (tgt := 165) hx hb dX12_hands_94 (by decide) (fun c22 => ?_) (fun c22 => ?_)
                      · have h := sh_f c22 h
                        obtain ⟨v23, ev23⟩ : ∃ y : Int32, y = i15 + (1 : Int32) := ⟨_, rfl⟩
                        have h := nm_a ev23 h
                        refine lv_iinc (v := v23) (lv' := [(8, .int v23), (0, .ref (ad 12 0)), (2, .int x2), (3, .int i7), (4, .int i11), (5, .long j12), (7, .int i14)]) hx hb dX12_hands_165 hl (k := 6) rfl (by rw [ev23]; rfl) (by decide) rfl (fun ls hl => ?_)
                        refine lv_goto (tgt := 77) hx hb dX12_hands_168 (by decide) ?_
                        exact ih13 i14 v23 _ _ _ hW hS (lv_sub hl [1, 2, 3, 4, 5, 6, 0] rfl) h
                      · have h := sh_t c22 h
                        refine lv_aload_n hx hb dX12_hands_97 rfl (lv_at hl 0 rfl) ?_
                        refine gtX12_22 hx hb hts hown hK hW cz12 dX12_hands_98 ?_
                        refine lv_iload hx hb dX12_hands_101 (lv_at hl 6 rfl) ?_
                        obtain ⟨hj, h⟩ := ix_a h
                        refine al54 hx hb hK hW cz54 hj dX12_hands_103 ?_
                        refine lv_if_ge (tgt := 165) hx hb dX12_hands_104 (by decide) (fun c24 => ?_) (fun c24 => ?_)
                        · have h := sh_t c24 h
                          obtain ⟨v25, ev25⟩ : ∃ y : Int32, y = i15 + (1 : Int32) := ⟨_, rfl⟩
                          have h := nm_a ev25 h
                          refine lv_iinc (v := v25) (lv' := [(8, .int v25), (0, .ref (ad 12 0)), (2, .int x2), (3, .int i7), (4, .int i11), (5, .long j12), (7, .int i14)]) hx hb dX12_hands_165 hl (k := 6) rfl (by rw [ev25]; rfl) (by decide) rfl (fun ls hl => ?_)
                          refine lv_goto (tgt := 77) hx hb dX12_hands_168 (by decide) ?_
                          exact ih13 i14 v25 _ _ _ hW hS (lv_sub hl [1, 2, 3, 4, 5, 6, 0] rfl) h
                        · have h := sh_f c24 h
                          refine lv_lload hx hb dX12_hands_107 (lv_at hl 4 rfl) ?_
                          refine lv_iload hx hb dX12_hands_109 (lv_at hl 6 rfl) ?_
                          refine lv_lshr hx hb dX12_hands_111 rfl ?_
                          refine lv_lconst (v := (1 : Int64)) hx hb dX12_hands_112 (by decide) ?_
                          refine lv_land hx hb dX12_hands_113 ?_
                          refine lv_lconst (v := (1 : Int64)) hx hb dX12_hands_114 (by decide) ?_
                          refine W.lcmp hx hb dX12_hands_115 ?_
                          refine lv_if_eq (tgt := 165) hx hb dX12_hands_116 (by decide) (fun c26 => ?_) (fun c26 => ?_)
                          · have h := sh_t c26 h
                            obtain ⟨v27, ev27⟩ : ∃ y : Int32, y = i15 + (1 : Int32) := ⟨_, rfl⟩
                            have h := nm_a ev27 h
                            refine lv_iinc (v := v27) (lv' := [(8, .int v27), (0, .ref (ad 12 0)), (2, .int x2), (3, .int i7), (4, .int i11), (5, .long j12), (7, .int i14)]) hx hb dX12_hands_165 hl (k := 6) rfl (by rw [ev27]; rfl) (by decide) rfl (fun ls hl => ?_)
                            refine lv_goto (tgt := 77) hx hb dX12_hands_168 (by decide) ?_
                            exact ih13 i14 v27 _ _ _ hW hS (lv_sub hl [1, 2, 3, 4, 5, 6, 0] rfl) h
                          · have h := sh_f c26 h
                            refine lv_aload_n hx hb dX12_hands_119 rfl (lv_at hl 0 rfl) ?_
                            refine lv_iload hx hb dX12_hands_120 (lv_at hl 6 rfl) ?_
                            obtain ⟨b28, hcb28, h⟩ := bd_a h
                            refine tb_cVI hZk hx hb hml hown hts hK hZ hW hS [.int i15] (mX12_handsOf (l := l) hZk i15 M5 b28 hcb28) pmX12_handsOf tw1695 (Wd.recv hK hW (t := 12) (by decide) cz12 (C := RX12) (T := TX12) (N := 58) rfl) ⟨Nat.le_of_ble_eq_true rfl, Nat.le_of_ble_eq_true rfl⟩ rfl hl.1 (Nat.le_of_ble_eq_true rfl) ⟨Nat.le_refl _, Nat.le_refl _⟩ rfl dX12_hands_122 (fun H locs hW hS => ?_)
                            refine lv_iload_n hx hb dX12_hands_125 rfl (lv_at hl 2 rfl) ?_
                            refine lv_iand hx hb dX12_hands_126 ?_
                            refine lv_if_ne (tgt := 133) hx hb dX12_hands_127 (by decide) (fun c29 => ?_) (fun c29 => ?_)
                            · have h := sh_f c29 h
                              refine lv_iload hx hb dX12_hands_133 (lv_at hl 5 rfl) ?_
                              refine lv_if_lt (tgt := 161) hx hb dX12_hands_135 (by decide) (fun c30 => ?_) (fun c30 => ?_)
                              · have h := sh_t c30 h
                                refine lv_iload hx hb dX12_hands_161 (lv_at hl 6 rfl) ?_
                                refine lv_istore (lv' := [(7, .int i15), (0, .ref (ad 12 0)), (2, .int x2), (3, .int i7), (4, .int i11), (5, .long j12), (8, .int i15)]) hx hb dX12_hands_163 hl (by decide) rfl (fun ls hl => ?_)
                                obtain ⟨v31, ev31⟩ : ∃ y : Int32, y = i15 + (1 : Int32) := ⟨_, rfl⟩
                                have h := nm_a ev31 h
                                refine lv_iinc (v := v31) (lv' := [(8, .int v31), (7, .int i15), (0, .ref (ad 12 0)), (2, .int x2), (3, .int i7), (4, .int i11), (5, .long j12)]) hx hb dX12_hands_165 hl (k := 6) rfl (by rw [ev31]; rfl) (by decide) rfl (fun ls hl => ?_)
                                refine lv_goto (tgt := 77) hx hb dX12_hands_168 (by decide) ?_
                                exact ih13 i15 v31 _ _ _ hW hS (lv_sub hl [2, 3, 4, 5, 6, 1, 0] rfl) h
                              · have h := sh_f c30 h
                                refine lv_aload_n hx hb dX12_hands_138 rfl (lv_at hl 0 rfl) ?_
                                refine gtX12_57 hx hb hts hown hK hW cz12 dX12_hands_139 ?_
                                refine lv_iload hx hb dX12_hands_142 (lv_at hl 6 rfl) ?_
                                obtain ⟨hj, h⟩ := ix_a h
                                refine al65 hx hb hK hW cz65 hj dX12_hands_144 ?_
                                obtain ⟨b32, hcb32, h⟩ := bd_a h
                                refine tb_cSI hZk hx hb hml hown hts hK hZ hW hS [.long (mgL M5 6500 0 i15.toNatClampNeg)] (mX12_bitsOf (l := l) hZk (mgL M5 6500 0 i15.toNatClampNeg) M5 b32 hcb32) pmX12_bitsOf tw1472 ⟨Nat.le_of_ble_eq_true rfl, Nat.le_of_ble_eq_true rfl⟩ rfl hl.1 (Nat.le_of_ble_eq_true rfl) ⟨Nat.le_refl _, Nat.le_refl _⟩ rfl dX12_hands_145 (fun H locs hW hS => ?_)
                                refine lv_aload_n hx hb dX12_hands_148 rfl (lv_at hl 0 rfl) ?_
                                refine gtX12_57 hx hb hts hown hK hW cz12 dX12_hands_149 ?_
                                refine lv_iload hx hb dX12_hands_152 (lv_at hl 5 rfl) ?_
                                obtain ⟨hj, h⟩ := ix_a h
                                refine al65 hx hb hK hW cz65 hj dX12_hands_154 ?_
                                obtain ⟨b33, hcb33, h⟩ := bd_a h
                                refine tb_cSI hZk hx hb hml hown hts hK hZ hW hS [.long (mgL M5 6500 0 i14.toNatClampNeg)] (mX12_bitsOf (l := l) hZk (mgL M5 6500 0 i14.toNatClampNeg) M5 b33 hcb33) pmX12_bitsOf tw1472 ⟨Nat.le_of_ble_eq_true rfl, Nat.le_of_ble_eq_true rfl⟩ rfl hl.1 (Nat.le_of_ble_eq_true rfl) ⟨Nat.le_refl _, Nat.le_refl _⟩ rfl dX12_hands_155 (fun H locs hW hS => ?_)
                                refine lv_icmp_le (tgt := 165) hx hb dX12_hands_158 (by decide) (fun c34 => ?_) (fun c34 => ?_)
                                · have h := sh_t c34 h
                                  obtain ⟨v35, ev35⟩ : ∃ y : Int32, y = i15 + (1 : Int32) := ⟨_, rfl⟩
                                  have h := nm_a ev35 h
                                  refine lv_iinc (v := v35) (lv' := [(8, .int v35), (0, .ref (ad 12 0)), (2, .int x2), (3, .int i7), (4, .int i11), (5, .long j12), (7, .int i14)]) hx hb dX12_hands_165 hl (k := 6) rfl (by rw [ev35]; rfl) (by decide) rfl (fun ls hl => ?_)
                                  refine lv_goto (tgt := 77) hx hb dX12_hands_168 (by decide) ?_
                                  exact ih13 i14 v35 _ _ _ hW hS (lv_sub hl [1, 2, 3, 4, 5, 6, 0] rfl) h
                                · have h := sh_f c34 h
                                  refine lv_iload hx hb dX12_hands_161 (lv_at hl 6 rfl) ?_
                                  refine lv_istore (lv' := [(7, .int i15), (0, .ref (ad 12 0)), (2, .int x2), (3, .int i7), (4, .int i11), (5, .long j12), (8, .int i15)]) hx hb dX12_hands_163 hl (by decide) rfl (fun ls hl => ?_)
                                  obtain ⟨v36, ev36⟩ : ∃ y : Int32, y = i15 + (1 : Int32) := ⟨_, rfl⟩
                                  have h := nm_a ev36 h
                                  refine lv_iinc (v := v36) (lv' := [(8, .int v36), (7, .int i15), (0, .ref (ad 12 0)), (2, .int x2), (3, .int i7), (4, .int i11), (5, .long j12)]) hx hb dX12_hands_165 hl (k := 6) rfl (by rw [ev36]; rfl) (by decide) rfl (fun ls hl => ?_)
                                  refine lv_goto (tgt := 77) hx hb dX12_hands_168 (by decide) ?_
                                  exact ih13 i15 v36 _ _ _ hW hS (lv_sub hl [2, 3, 4, 5, 6, 1, 0] rfl) h
                            · have h := sh_t c29 h
                              refine lv_goto (tgt := 165) hx hb dX12_hands_130 (by decide) ?_
                              obtain ⟨v37, ev37⟩ : ∃ y : Int32, y = i15 + (1 : Int32) := ⟨_, rfl⟩
                              have h := nm_a ev37 h
                              refine lv_iinc (v := v37) (lv' := [(8, .int v37), (0, .ref (ad 12 0)), (2, .int x2), (3, .int i7), (4, .int i11), (5, .long j12), (7, .int i14)]) hx hb dX12_hands_165 hl (k := 6) rfl (by rw [ev37]; rfl) (by decide) rfl (fun ls hl => ?_)
                              refine lv_goto (tgt := 77) hx hb dX12_hands_168 (by decide) ?_
                              exact ih13 i14 v37 _ _ _ hW hS (lv_sub hl [1, 2, 3, 4, 5, 6, 0] rfl) h
                exact L13 FU (-1 : Int32) (0 : Int32) _ _ _ hW hS (lv_sub hl [2, 3, 4, 5, 6, 1, 0] rfl) h
            exact L10 FU (0 : Int32) (0 : Int64) _ _ _ hW hS (lv_sub hl [2, 4, 5, 1, 0] rfl) h
          · have h := sh_f c9 h
            refine lv_aload_n hx hb dX12_hands_35 rfl (lv_at hl 0 rfl) ?_
            refine gtX12_125 hx hb hts hown hK hW cz12 dX12_hands_36 ?_
            refine lv_bipush (v := (20 : Int32)) hx hb dX12_hands_39 (by decide) ?_
            refine lv_iload hx hb dX12_hands_41 (lv_at hl 4 rfl) ?_
            refine lv_imul hx hb dX12_hands_43 ?_
            refine lv_iload_n hx hb dX12_hands_44 rfl (lv_at hl 1 rfl) ?_
            refine lv_iadd hx hb dX12_hands_45 ?_
            obtain ⟨hj, h⟩ := ix_a h
            refine al87 hx hb hK hW cz87 hj dX12_hands_46 ?_
            refine lv_if_le (tgt := 59) hx hb dX12_hands_47 (by decide) (fun c38 => ?_) (fun c38 => ?_)
            · have h := sh_t c38 h
              obtain ⟨v39, ev39⟩ : ∃ y : Int32, y = i8 + (1 : Int32) := ⟨_, rfl⟩
              have h := nm_a ev39 h
              refine lv_iinc (v := v39) (lv' := [(4, .int v39), (0, .ref (ad 12 0)), (1, .int x1), (2, .int x2), (3, .int i7)]) hx hb dX12_hands_59 hl (k := 4) rfl (by rw [ev39]; rfl) (by decide) rfl (fun ls hl => ?_)
              refine lv_goto (tgt := 26) hx hb dX12_hands_62 (by decide) ?_
              exact ih6 i7 v39 _ _ _ hW hS (lv_sub hl [1, 2, 3, 4, 0] rfl) h
            · have h := sh_f c38 h
              refine lv_iload_n hx hb dX12_hands_50 rfl (lv_at hl 3 rfl) ?_
              refine lv_aload_n hx hb dX12_hands_51 rfl (lv_at hl 0 rfl) ?_
              refine lv_iload hx hb dX12_hands_52 (lv_at hl 4 rfl) ?_
              obtain ⟨b40, hcb40, h⟩ := bd_a h
              refine tb_cVI hZk hx hb hml hown hts hK hZ hW hS [.int i8] (mX12_handsOf (l := l) hZk i8 M5 b40 hcb40) pmX12_handsOf tw1695 (Wd.recv hK hW (t := 12) (by decide) cz12 (C := RX12) (T := TX12) (N := 58) rfl) ⟨Nat.le_of_ble_eq_true rfl, Nat.le_of_ble_eq_true rfl⟩ rfl hl.1 (Nat.le_of_ble_eq_true rfl) ⟨Nat.le_refl _, Nat.le_refl _⟩ rfl dX12_hands_54 (fun H locs hW hS => ?_)
              refine lv_ior hx hb dX12_hands_57 ?_
              refine lv_topi (fun v41 ev41 => ?_)
              have h := nm_a ev41 h
              refine lv_istore_n (lv' := [(3, .int v41), (0, .ref (ad 12 0)), (1, .int x1), (2, .int x2), (4, .int i8)]) hx hb dX12_hands_58 rfl hl (by decide) rfl (fun ls hl => ?_)
              obtain ⟨v42, ev42⟩ : ∃ y : Int32, y = i8 + (1 : Int32) := ⟨_, rfl⟩
              have h := nm_a ev42 h
              refine lv_iinc (v := v42) (lv' := [(4, .int v42), (3, .int v41), (0, .ref (ad 12 0)), (1, .int x1), (2, .int x2)]) hx hb dX12_hands_59 hl (k := 4) rfl (by rw [ev42]; rfl) (by decide) rfl (fun ls hl => ?_)
              refine lv_goto (tgt := 26) hx hb dX12_hands_62 (by decide) ?_
              exact ih6 v41 v42 _ _ _ hW hS (lv_sub hl [2, 3, 4, 1, 0] rfl) h
      exact L6 FU (0 : Int32) (0 : Int32) _ _ _ hW hS (lv_sub hl [2, 3, 4, 1, 0] rfl) h
    · have h := sh_f c3 h
      refine lv_iconst (v := (-1 : Int32)) hx hb dX12_hands_15 (by decide) ?_
      exact tb_iretE h hx hb hr hS hW hlk dX12_hands_16
def fX12_span_b24 (M0 : Mem) (x1 : Int32) (x2 : Int32) (k5 : Int32 → Int32 → Option Int32) (i6 : Int32) (i7 : Int32) : Option Int32 :=
  if (mgI M0 1212 0 0) ≤ i7 then (some i6) else (ix i7 200 <| if (mgI M0 6000 0 i7.toNatClampNeg) = x1 then (ix i7 200 <| if (mgI M0 6300 0 i7.toNatClampNeg) = 0 then (if x2 = 0 then (ix i7 200 <| if (mgI M0 6200 0 i7.toNatClampNeg) = 0 then (nm (i6 + (1 : Int32)) fun v58 => nm (i7 + (1 : Int32)) fun v59 => k5 v58 v59) else (if x2 = (1 : Int32) then (ix i7 200 <| if (mgI M0 6200 0 i7.toNatClampNeg) = (1 : Int32) then (if x2 = (2 : Int32) then (ix i7 200 <| if (mgI M0 6200 0 i7.toNatClampNeg) = (2 : Int32) then (nm (i6 + (1 : Int32)) fun v94 => nm (i7 + (1 : Int32)) fun v95 => k5 v94 v95) else (if x2 = (3 : Int32) then (ix i7 200 <| if (mgI M0 6200 0 i7.toNatClampNeg) = (1 : Int32) then (nm (i6 + (1 : Int32)) fun v102 => nm (i7 + (1 : Int32)) fun v103 => k5 v102 v103) else (nm (i6 + (0 : Int32)) fun v100 => nm (i7 + (1 : Int32)) fun v101 => k5 v100 v101)) else (nm (i6 + (0 : Int32)) fun v97 => nm (i7 + (1 : Int32)) fun v98 => k5 v97 v98))) else (if x2 = (3 : Int32) then (ix i7 200 <| if (mgI M0 6200 0 i7.toNatClampNeg) = (1 : Int32) then (nm (i6 + (1 : Int32)) fun v91 => nm (i7 + (1 : Int32)) fun v92 => k5 v91 v92) else (nm (i6 + (0 : Int32)) fun v89 => nm (i7 + (1 : Int32)) fun v90 => k5 v89 v90)) else (nm (i6 + (0 : Int32)) fun v86 => nm (i7 + (1 : Int32)) fun v87 => k5 v86 v87))) else (nm (i6 + (1 : Int32)) fun v82 => nm (i7 + (1 : Int32)) fun v83 => k5 v82 v83)) else (if x2 = (2 : Int32) then (ix i7 200 <| if (mgI M0 6200 0 i7.toNatClampNeg) = (2 : Int32) then (nm (i6 + (1 : Int32)) fun v71 => nm (i7 + (1 : Int32)) fun v72 => k5 v71 v72) else (if x2 = (3 : Int32) then (ix i7 200 <| if (mgI M0 6200 0 i7.toNatClampNeg) = (1 : Int32) then (nm (i6 + (1 : Int32)) fun v79 => nm (i7 + (1 : Int32)) fun v80 => k5 v79 v80) else (nm (i6 + (0 : Int32)) fun v77 => nm (i7 + (1 : Int32)) fun v78 => k5 v77 v78)) else (nm (i6 + (0 : Int32)) fun v74 => nm (i7 + (1 : Int32)) fun v75 => k5 v74 v75))) else (if x2 = (3 : Int32) then (ix i7 200 <| if (mgI M0 6200 0 i7.toNatClampNeg) = (1 : Int32) then (nm (i6 + (1 : Int32)) fun v68 => nm (i7 + (1 : Int32)) fun v69 => k5 v68 v69) else (nm (i6 + (0 : Int32)) fun v66 => nm (i7 + (1 : Int32)) fun v67 => k5 v66 v67)) else (nm (i6 + (0 : Int32)) fun v63 => nm (i7 + (1 : Int32)) fun v64 => k5 v63 v64))))) else (if x2 = (1 : Int32) then (ix i7 200 <| if (mgI M0 6200 0 i7.toNatClampNeg) = (1 : Int32) then (if x2 = (2 : Int32) then (ix i7 200 <| if (mgI M0 6200 0 i7.toNatClampNeg) = (2 : Int32) then (nm (i6 + (1 : Int32)) fun v47 => nm (i7 + (1 : Int32)) fun v48 => k5 v47 v48) else (if x2 = (3 : Int32) then (ix i7 200 <| if (mgI M0 6200 0 i7.toNatClampNeg) = (1 : Int32) then (nm (i6 + (1 : Int32)) fun v55 => nm (i7 + (1 : Int32)) fun v56 => k5 v55 v56) else (nm (i6 + (0 : Int32)) fun v53 => nm (i7 + (1 : Int32)) fun v54 => k5 v53 v54)) else (nm (i6 + (0 : Int32)) fun v50 => nm (i7 + (1 : Int32)) fun v51 => k5 v50 v51))) else (if x2 = (3 : Int32) then (ix i7 200 <| if (mgI M0 6200 0 i7.toNatClampNeg) = (1 : Int32) then (nm (i6 + (1 : Int32)) fun v44 => nm (i7 + (1 : Int32)) fun v45 => k5 v44 v45) else (nm (i6 + (0 : Int32)) fun v42 => nm (i7 + (1 : Int32)) fun v43 => k5 v42 v43)) else (nm (i6 + (0 : Int32)) fun v39 => nm (i7 + (1 : Int32)) fun v40 => k5 v39 v40))) else (nm (i6 + (1 : Int32)) fun v35 => nm (i7 + (1 : Int32)) fun v36 => k5 v35 v36)) else (if x2 = (2 : Int32) then (ix i7 200 <| if (mgI M0 6200 0 i7.toNatClampNeg) = (2 : Int32) then (nm (i6 + (1 : Int32)) fun v24 => nm (i7 + (1 : Int32)) fun v25 => k5 v24 v25) else (if x2 = (3 : Int32) then (ix i7 200 <| if (mgI M0 6200 0 i7.toNatClampNeg) = (1 : Int32) then (nm (i6 + (1 : Int32)) fun v32 => nm (i7 + (1 : Int32)) fun v33 => k5 v32 v33) else (nm (i6 + (0 : Int32)) fun v30 => nm (i7 + (1 : Int32)) fun v31 => k5 v30 v31)) else (nm (i6 + (0 : Int32)) fun v27 => nm (i7 + (1 : Int32)) fun v28 => k5 v27 v28))) else (if x2 = (3 : Int32) then (ix i7 200 <| if (mgI M0 6200 0 i7.toNatClampNeg) = (1 : Int32) then (nm (i6 + (1 : Int32)) fun v21 => nm (i7 + (1 : Int32)) fun v22 => k5 v21 v22) else (nm (i6 + (0 : Int32)) fun v19 => nm (i7 + (1 : Int32)) fun v20 => k5 v19 v20)) else (nm (i6 + (0 : Int32)) fun v16 => nm (i7 + (1 : Int32)) fun v17 => k5 v16 v17))))) else (nm (i7 + (1 : Int32)) fun v104 => k5 i6 v104)) else (nm (i7 + (1 : Int32)) fun v10 => k5 i6 v10))
def fX12_span_l24 (M0 : Mem) (x1 : Int32) (x2 : Int32) : Nat → Int32 → Int32 → Option Int32
  | 0, _, _ => none
  | n + 1, i6, i7 => fX12_span_b24 M0 x1 x2 (fX12_span_l24 M0 x1 x2 n) i6 i7
def fX12_span (x1 : Int32) (x2 : Int32) (M0 : Mem) : Option Int32 :=
  nm (fX12_isStone x1 M0) fun b1 => if b1 = 0 then (some (-1 : Int32)) else (nm (fX12_in x2 (0 : Int32) (3 : Int32)) fun b3 => if b3 = 0 then (some (-1 : Int32)) else (fX12_span_l24 M0 x1 x2 FU (0 : Int32) (0 : Int32)))
set_option maxHeartbeats 4000000 in
set_option maxRecDepth 100000 in
theorem mX12_span {l : Launch} {D : va_G} {cy : Nat → ClassId} {A : Nat → Prop} {Z : State → Heap → Prop} {ad : Nat → Nat → Nat} (hZk : ZOK A Z) (x1 : Int32) (x2 : Int32) (M0 : Mem) (r : Int32) (h : fX12_span x1 x2 M0 = some r) : Met l yX12_span (wt yX12_span cX12_span 5 (some .int)) (rm 2 43) (CPre D cy A Z cnM ad M0 [.ref (ad 12 0), .int x1, .int x2]) (QI D cy A cnM ad r M0) 0 0 A := by
  refine tb_start [.ref (ad 12 0), .int x1, .int x2] [(0, .ref (ad 12 0)), (1, .int x1), (2, .int x2)] RX12 rfl (by decide +kernel) (Nat.le_of_ble_eq_true rfl) rfl (fun p e s m args below meth c hx hb hr hml hown hts hlk hW hK hZ ls hl => ?_)
  have hS : va_S A s.heap s.heap [] := va_S.rf
  unfold fX12_span at h
  refine lv_aload_n hx hb dX12_span_0 rfl (lv_at hl 0 rfl) ?_
  refine lv_iload_n hx hb dX12_span_1 rfl (lv_at hl 1 rfl) ?_
  refine tb_cVZ hZk hx hb hml hown hts hK hZ hW hS [.int x1] (mX12_isStone (l := l) hZk x1 M0 (fX12_isStone x1 M0) rfl) pmX12_isStone tw1415 (Wd.recv hK hW (t := 12) (by decide) cz12 (C := RX12) (T := TX12) (N := 58) rfl) ⟨Nat.le_of_ble_eq_true rfl, Nat.le_of_ble_eq_true rfl⟩ rfl hl.1 (Nat.le_of_ble_eq_true rfl) ⟨Nat.le_refl _, Nat.le_refl _⟩ rfl dX12_span_2 (fun H locs hW hS hzz => ?_)
  refine lv_topi (fun b1 eb1 => ?_)
  have h := nm_a eb1 h
  have hzb1 : b1 = 0 ∨ b1 = 1 := by rw [eb1]; exact hzz
  refine lv_if_eq (tgt := 17) hx hb dX12_span_5 (by decide) (fun c2 => ?_) (fun c2 => ?_)
  · have h := sh_t c2 h
    refine lv_iconst (v := (-1 : Int32)) hx hb dX12_span_17 (by decide) ?_
    exact tb_iretO h hx hb hr hS hW hlk dX12_span_18
  · have h := sh_f c2 h
    refine lv_iload_n hx hb dX12_span_8 rfl (lv_at hl 2 rfl) ?_
    refine lv_iconst (v := (0 : Int32)) hx hb dX12_span_9 (by decide) ?_
    refine lv_iconst (v := (3 : Int32)) hx hb dX12_span_10 (by decide) ?_
    refine tb_cSZ hZk hx hb hml hown hts hK hZ hW hS [.int x2, .int (0 : Int32), .int (3 : Int32)] (mX12_in (l := l) hZk x2 (0 : Int32) (3 : Int32) M0 (fX12_in x2 (0 : Int32) (3 : Int32)) rfl) pmX12_in tw1401 ⟨Nat.le_of_ble_eq_true rfl, Nat.le_of_ble_eq_true rfl⟩ rfl hl.1 (Nat.le_of_ble_eq_true rfl) ⟨Nat.le_refl _, Nat.le_refl _⟩ rfl dX12_span_11 (fun H locs hW hS hzz => ?_)
    refine lv_topi (fun b3 eb3 => ?_)
    have h := nm_a eb3 h
    have hzb3 : b3 = 0 ∨ b3 = 1 := by rw [eb3]; exact hzz
    refine lv_if_ne (tgt := 19) hx hb dX12_span_14 (by decide) (fun c4 => ?_) (fun c4 => ?_)
    · have h := sh_f c4 h
      refine lv_iconst (v := (0 : Int32)) hx hb dX12_span_19 (by decide) ?_
      refine lv_istore_n (lv' := [(3, .int (0 : Int32)), (0, .ref (ad 12 0)), (1, .int x1), (2, .int x2)]) hx hb dX12_span_20 rfl hl (by decide) rfl (fun ls hl => ?_)
      refine lv_iconst (v := (0 : Int32)) hx hb dX12_span_21 (by decide) ?_
      refine lv_istore (lv' := [(4, .int (0 : Int32)), (3, .int (0 : Int32)), (0, .ref (ad 12 0)), (1, .int x1), (2, .int x2)]) hx hb dX12_span_22 hl (by decide) rfl (fun ls hl => ?_)
      have L5 : ∀ (n5 : Nat) (i6 : Int32) (i7 : Int32) (H : Heap) (locs : List Loc) (ls : Array Slot), Wd D cy A cnM ad M0 H → va_S A s.heap H locs → lv_has ls 5 [(0, .ref (ad 12 0)), (1, .int x1), (2, .int x2), (3, .int i6), (4, .int i7)] → fX12_span_l24 M0 x1 x2 n5 i6 i7 = some r → W p l e (rm 2 43) s m args below meth c H locs 0 0 (MQ below (QI D cy A cnM ad r M0) args s 0 0 A) (F0 m 24 ls []) := by
        intro n5
        induction n5 with
        | zero => intro i6 i7 H locs ls hW hS hl h; cases h
        | succ n5 ih5 =>
          intro i6 i7 H locs ls hW hS hl h
          unfold fX12_span_l24 fX12_span_b24 at h
          refine lv_iload hx hb dX12_span_24 (lv_at hl 4 rfl) ?_
          refine lv_aload_n hx hb dX12_span_26 rfl (lv_at hl 0 rfl) ?_
          refine gtX12_154 hx hb hts hown hK hW cz12 dX12_span_27 ?_
          refine lv_icmp_ge (tgt := 133) hx hb dX12_span_30 (by decide) (fun c8 => ?_) (fun c8 => ?_)
          · have h := sh_t c8 h
            refine lv_iload_n hx hb dX12_span_133 rfl (lv_at hl 3 rfl) ?_
            exact tb_iretO h hx hb hr hS hW hlk dX12_span_134
          · have h := sh_f c8 h
            refine lv_aload_n hx hb dX12_span_33 rfl (lv_at hl 0 rfl) ?_
            refine gtX12_41 hx hb hts hown hK hW cz12 dX12_span_34 ?_
            refine lv_iload hx hb dX12_span_37 (lv_at hl 4 rfl) ?_
            obtain ⟨hj, h⟩ := ix_a h
            refine al60 hx hb hK hW cz60 hj dX12_span_39 ?_
            refine lv_iload_n hx hb dX12_span_40 rfl (lv_at hl 1 rfl) ?_
            refine lv_icmp_ne (tgt := 127) hx hb dX12_span_41 (by decide) (fun c9 => ?_) (fun c9 => ?_)
            · have h := sh_f c9 h
              obtain ⟨v10, ev10⟩ : ∃ y : Int32, y = i7 + (1 : Int32) := ⟨_, rfl⟩
              have h := nm_a ev10 h
              refine lv_iinc (v := v10) (lv' := [(4, .int v10), (0, .ref (ad 12 0)), (1, .int x1), (2, .int x2), (3, .int i6)]) hx hb dX12_span_127 hl (k := 4) rfl (by rw [ev10]; rfl) (by decide) rfl (fun ls hl => ?_)
              refine lv_goto (tgt := 24) hx hb dX12_span_130 (by decide) ?_
              exact ih5 i6 v10 _ _ _ hW hS (lv_sub hl [1, 2, 3, 4, 0] rfl) h
            · have h := sh_t c9 h
              refine lv_aload_n hx hb dX12_span_44 rfl (lv_at hl 0 rfl) ?_
              refine gtX12_50 hx hb hts hown hK hW cz12 dX12_span_45 ?_
              refine lv_iload hx hb dX12_span_48 (lv_at hl 4 rfl) ?_
              obtain ⟨hj, h⟩ := ix_a h
              refine al63 hx hb hK hW cz63 hj dX12_span_50 ?_
              refine lv_if_eq (tgt := 57) hx hb dX12_span_51 (by decide) (fun c11 => ?_) (fun c11 => ?_)
              · have h := sh_t c11 h
                refine lv_iload_n hx hb dX12_span_57 rfl (lv_at hl 3 rfl) ?_
                refine lv_iload_n hx hb dX12_span_58 rfl (lv_at hl 2 rfl) ?_
                refine lv_if_ne (tgt := 72) hx hb dX12_span_59 (by decide) (fun c12 => ?_) (fun c12 => ?_)
                · have h := sh_f c12 h
                  refine lv_iload_n hx hb dX12_span_72 rfl (lv_at hl 2 rfl) ?_
                  refine lv_iconst (v := (1 : Int32)) hx hb dX12_span_73 (by decide) ?_
                  refine lv_icmp_ne (tgt := 88) hx hb dX12_span_74 (by decide) (fun c13 => ?_) (fun c13 => ?_)
                  · have h := sh_f c13 h
                    refine lv_iload_n hx hb dX12_span_88 rfl (lv_at hl 2 rfl) ?_
                    refine lv_iconst (v := (2 : Int32)) hx hb dX12_span_89 (by decide) ?_
                    refine lv_icmp_ne (tgt := 104) hx hb dX12_span_90 (by decide) (fun c14 => ?_) (fun c14 => ?_)
                    · have h := sh_f c14 h
                      refine lv_iload_n hx hb dX12_span_104 rfl (lv_at hl 2 rfl) ?_
                      refine lv_iconst (v := (3 : Int32)) hx hb dX12_span_105 (by decide) ?_
                      refine lv_icmp_ne (tgt := 124) hx hb dX12_span_106 (by decide) (fun c15 => ?_) (fun c15 => ?_)
                      · have h := sh_f c15 h
                        refine lv_iconst (v := (0 : Int32)) hx hb dX12_span_124 (by decide) ?_
                        refine lv_iadd hx hb dX12_span_125 ?_
                        refine lv_topi (fun v16 ev16 => ?_)
                        have h := nm_a ev16 h
                        refine lv_istore_n (lv' := [(3, .int v16), (0, .ref (ad 12 0)), (1, .int x1), (2, .int x2), (4, .int i7)]) hx hb dX12_span_126 rfl hl (by decide) rfl (fun ls hl => ?_)
                        obtain ⟨v17, ev17⟩ : ∃ y : Int32, y = i7 + (1 : Int32) := ⟨_, rfl⟩
                        have h := nm_a ev17 h
                        refine lv_iinc (v := v17) (lv' := [(4, .int v17), (3, .int v16), (0, .ref (ad 12 0)), (1, .int x1), (2, .int x2)]) hx hb dX12_span_127 hl (k := 4) rfl (by rw [ev17]; rfl) (by decide) rfl (fun ls hl => ?_)
                        refine lv_goto (tgt := 24) hx hb dX12_span_130 (by decide) ?_
                        exact ih5 v16 v17 _ _ _ hW hS (lv_sub hl [2, 3, 4, 1, 0] rfl) h
                      · have h := sh_t c15 h
                        refine lv_aload_n hx hb dX12_span_109 rfl (lv_at hl 0 rfl) ?_
                        refine gtX12_47 hx hb hts hown hK hW cz12 dX12_span_110 ?_
                        refine lv_iload hx hb dX12_span_113 (lv_at hl 4 rfl) ?_
                        obtain ⟨hj, h⟩ := ix_a h
                        refine al62 hx hb hK hW cz62 hj dX12_span_115 ?_
                        refine lv_iconst (v := (1 : Int32)) hx hb dX12_span_116 (by decide) ?_
                        refine lv_icmp_ne (tgt := 124) hx hb dX12_span_117 (by decide) (fun c18 => ?_) (fun c18 => ?_)
                        · have h := sh_f c18 h
                          refine lv_iconst (v := (0 : Int32)) hx hb dX12_span_124 (by decide) ?_
                          refine lv_iadd hx hb dX12_span_125 ?_
                          refine lv_topi (fun v19 ev19 => ?_)
                          have h := nm_a ev19 h
                          refine lv_istore_n (lv' := [(3, .int v19), (0, .ref (ad 12 0)), (1, .int x1), (2, .int x2), (4, .int i7)]) hx hb dX12_span_126 rfl hl (by decide) rfl (fun ls hl => ?_)
                          obtain ⟨v20, ev20⟩ : ∃ y : Int32, y = i7 + (1 : Int32) := ⟨_, rfl⟩
                          have h := nm_a ev20 h
                          refine lv_iinc (v := v20) (lv' := [(4, .int v20), (3, .int v19), (0, .ref (ad 12 0)), (1, .int x1), (2, .int x2)]) hx hb dX12_span_127 hl (k := 4) rfl (by rw [ev20]; rfl) (by decide) rfl (fun ls hl => ?_)
                          refine lv_goto (tgt := 24) hx hb dX12_span_130 (by decide) ?_
                          exact ih5 v19 v20 _ _ _ hW hS (lv_sub hl [2, 3, 4, 1, 0] rfl) h
                        · have h := sh_t c18 h
                          refine lv_iconst (v := (1 : Int32)) hx hb dX12_span_120 (by decide) ?_
                          refine lv_goto (tgt := 125) hx hb dX12_span_121 (by decide) ?_
                          refine lv_iadd hx hb dX12_span_125 ?_
                          refine lv_topi (fun v21 ev21 => ?_)
                          have h := nm_a ev21 h
                          refine lv_istore_n (lv' := [(3, .int v21), (0, .ref (ad 12 0)), (1, .int x1), (2, .int x2), (4, .int i7)]) hx hb dX12_span_126 rfl hl (by decide) rfl (fun ls hl => ?_)
                          obtain ⟨v22, ev22⟩ : ∃ y : Int32, y = i7 + (1 : Int32) := ⟨_, rfl⟩
                          have h := nm_a ev22 h
                          refine lv_iinc (v := v22) (lv' := [(4, .int v22), (3, .int v21), (0, .ref (ad 12 0)), (1, .int x1), (2, .int x2)]) hx hb dX12_span_127 hl (k := 4) rfl (by rw [ev22]; rfl) (by decide) rfl (fun ls hl => ?_)
                          refine lv_goto (tgt := 24) hx hb dX12_span_130 (by decide) ?_
                          exact ih5 v21 v22 _ _ _ hW hS (lv_sub hl [2, 3, 4, 1, 0] rfl) h
                    · have h := sh_t c14 h
                      refine lv_aload_n hx hb dX12_span_93 rfl (lv_at hl 0 rfl) ?_
                      refine gtX12_47 hx hb hts hown hK hW cz12 dX12_span_94 ?_
                      refine lv_iload hx hb dX12_span_97 (lv_at hl 4 rfl) ?_
                      obtain ⟨hj, h⟩ := ix_a h
                      refine al62 hx hb hK hW cz62 hj dX12_span_99 ?_
                      refine lv_iconst (v := (2 : Int32)) hx hb dX12_span_100 (by decide) ?_
                      refine lv_icmp_eq (tgt := 120) hx hb dX12_span_101 (by decide) (fun c23 => ?_) (fun c23 => ?_)
                      · have h := sh_t c23 h
                        refine lv_iconst (v := (1 : Int32)) hx hb dX12_span_120 (by decide) ?_
                        refine lv_goto (tgt := 125) hx hb dX12_span_121 (by decide) ?_
                        refine lv_iadd hx hb dX12_span_125 ?_
                        refine lv_topi (fun v24 ev24 => ?_)
                        have h := nm_a ev24 h
                        refine lv_istore_n (lv' := [(3, .int v24), (0, .ref (ad 12 0)), (1, .int x1), (2, .int x2), (4, .int i7)]) hx hb dX12_span_126 rfl hl (by decide) rfl (fun ls hl => ?_)
                        obtain ⟨v25, ev25⟩ : ∃ y : Int32, y = i7 + (1 : Int32) := ⟨_, rfl⟩
                        have h := nm_a ev25 h
                        refine lv_iinc (v := v25) (lv' := [(4, .int v25), (3, .int v24), (0, .ref (ad 12 0)), (1, .int x1), (2, .int x2)]) hx hb dX12_span_127 hl (k := 4) rfl (by rw [ev25]; rfl) (by decide) rfl (fun ls hl => ?_)
                        refine lv_goto (tgt := 24) hx hb dX12_span_130 (by decide) ?_
                        exact ih5 v24 v25 _ _ _ hW hS (lv_sub hl [2, 3, 4, 1, 0] rfl) h
                      · have h := sh_f c23 h
                        refine lv_iload_n hx hb dX12_span_104 rfl (lv_at hl 2 rfl) ?_
                        refine lv_iconst (v := (3 : Int32)) hx hb dX12_span_105 (by decide) ?_
                        refine lv_icmp_ne (tgt := 124) hx hb dX12_span_106 (by decide) (fun c26 => ?_) (fun c26 => ?_)
                        · have h := sh_f c26 h
                          refine lv_iconst (v := (0 : Int32)) hx hb dX12_span_124 (by decide) ?_
                          refine lv_iadd hx hb dX12_span_125 ?_
                          refine lv_topi (fun v27 ev27 => ?_)
                          have h := nm_a ev27 h
                          refine lv_istore_n (lv' := [(3, .int v27), (0, .ref (ad 12 0)), (1, .int x1), (2, .int x2), (4, .int i7)]) hx hb dX12_span_126 rfl hl (by decide) rfl (fun ls hl => ?_)
                          obtain ⟨v28, ev28⟩ : ∃ y : Int32, y = i7 + (1 : Int32) := ⟨_, rfl⟩
                          have h := nm_a ev28 h
                          refine lv_iinc (v := v28) (lv' := [(4, .int v28), (3, .int v27), (0, .ref (ad 12 0)), (1, .int x1), (2, .int x2)]) hx hb dX12_span_127 hl (k := 4) rfl (by rw [ev28]; rfl) (by decide) rfl (fun ls hl => ?_)
                          refine lv_goto (tgt := 24) hx hb dX12_span_130 (by decide) ?_
                          exact ih5 v27 v28 _ _ _ hW hS (lv_sub hl [2, 3, 4, 1, 0] rfl) h
                        · have h := sh_t c26 h
                          refine lv_aload_n hx hb dX12_span_109 rfl (lv_at hl 0 rfl) ?_
                          refine gtX12_47 hx hb hts hown hK hW cz12 dX12_span_110 ?_
                          refine lv_iload hx hb dX12_span_113 (lv_at hl 4 rfl) ?_
                          obtain ⟨hj, h⟩ := ix_a h
                          refine al62 hx hb hK hW cz62 hj dX12_span_115 ?_
                          refine lv_iconst (v := (1 : Int32)) hx hb dX12_span_116 (by decide) ?_
                          refine lv_icmp_ne (tgt := 124) hx hb dX12_span_117 (by decide) (fun c29 => ?_) (fun c29 => ?_)
                          · have h := sh_f c29 h
                            refine lv_iconst (v := (0 : Int32)) hx hb dX12_span_124 (by decide) ?_
                            refine lv_iadd hx hb dX12_span_125 ?_
                            refine lv_topi (fun v30 ev30 => ?_)
                            have h := nm_a ev30 h
                            refine lv_istore_n (lv' := [(3, .int v30), (0, .ref (ad 12 0)), (1, .int x1), (2, .int x2), (4, .int i7)]) hx hb dX12_span_126 rfl hl (by decide) rfl (fun ls hl => ?_)
                            obtain ⟨v31, ev31⟩ : ∃ y : Int32, y = i7 + (1 : Int32) := ⟨_, rfl⟩
                            have h := nm_a ev31 h
                            refine lv_iinc (v := v31) (lv' := [(4, .int v31), (3, .int v30), (0, .ref (ad 12 0)), (1, .int x1), (2, .int x2)]) hx hb dX12_span_127 hl (k := 4) rfl (by rw [ev31]; rfl) (by decide) rfl (fun ls hl => ?_)
                            refine lv_goto (tgt := 24) hx hb dX12_span_130 (by decide) ?_
                            exact ih5 v30 v31 _ _ _ hW hS (lv_sub hl [2, 3, 4, 1, 0] rfl) h
                          · have h := sh_t c29 h
                            refine lv_iconst (v := (1 : Int32)) hx hb dX12_span_120 (by decide) ?_
                            refine lv_goto (tgt := 125) hx hb dX12_span_121 (by decide) ?_
                            refine lv_iadd hx hb dX12_span_125 ?_
                            refine lv_topi (fun v32 ev32 => ?_)
                            have h := nm_a ev32 h
                            refine lv_istore_n (lv' := [(3, .int v32), (0, .ref (ad 12 0)), (1, .int x1), (2, .int x2), (4, .int i7)]) hx hb dX12_span_126 rfl hl (by decide) rfl (fun ls hl => ?_)
                            obtain ⟨v33, ev33⟩ : ∃ y : Int32, y = i7 + (1 : Int32) := ⟨_, rfl⟩
                            have h := nm_a ev33 h
                            refine lv_iinc (v := v33) (lv' := [(4, .int v33), (3, .int v32), (0, .ref (ad 12 0)), (1, .int x1), (2, .int x2)]) hx hb dX12_span_127 hl (k := 4) rfl (by rw [ev33]; rfl) (by decide) rfl (fun ls hl => ?_)
                            refine lv_goto (tgt := 24) hx hb dX12_span_130 (by decide) ?_
                            exact ih5 v32 v33 _ _ _ hW hS (lv_sub hl [2, 3, 4, 1, 0] rfl) h
                  · have h := sh_t c13 h
                    refine lv_aload_n hx hb dX12_span_77 rfl (lv_at hl 0 rfl) ?_
                    refine gtX12_47 hx hb hts hown hK hW cz12 dX12_span_78 ?_
                    refine lv_iload hx hb dX12_span_81 (lv_at hl 4 rfl) ?_
                    obtain ⟨hj, h⟩ := ix_a h
                    refine al62 hx hb hK hW cz62 hj dX12_span_83 ?_
                    refine lv_iconst (v := (1 : Int32)) hx hb dX12_span_84 (by decide) ?_
                    refine lv_icmp_ne (tgt := 120) hx hb dX12_span_85 (by decide) (fun c34 => ?_) (fun c34 => ?_)
                    · have h := sh_f c34 h
                      refine lv_iconst (v := (1 : Int32)) hx hb dX12_span_120 (by decide) ?_
                      refine lv_goto (tgt := 125) hx hb dX12_span_121 (by decide) ?_
                      refine lv_iadd hx hb dX12_span_125 ?_
                      refine lv_topi (fun v35 ev35 => ?_)
                      have h := nm_a ev35 h
                      refine lv_istore_n (lv' := [(3, .int v35), (0, .ref (ad 12 0)), (1, .int x1), (2, .int x2), (4, .int i7)]) hx hb dX12_span_126 rfl hl (by decide) rfl (fun ls hl => ?_)
                      obtain ⟨v36, ev36⟩ : ∃ y : Int32, y = i7 + (1 : Int32) := ⟨_, rfl⟩
                      have h := nm_a ev36 h
                      refine lv_iinc (v := v36) (lv' := [(4, .int v36), (3, .int v35), (0, .ref (ad 12 0)), (1, .int x1), (2, .int x2)]) hx hb dX12_span_127 hl (k := 4) rfl (by rw [ev36]; rfl) (by decide) rfl (fun ls hl => ?_)
                      refine lv_goto (tgt := 24) hx hb dX12_span_130 (by decide) ?_
                      exact ih5 v35 v36 _ _ _ hW hS (lv_sub hl [2, 3, 4, 1, 0] rfl) h
                    · have h := sh_t c34 h
                      refine lv_iload_n hx hb dX12_span_88 rfl (lv_at hl 2 rfl) ?_
                      refine lv_iconst (v := (2 : Int32)) hx hb dX12_span_89 (by decide) ?_
                      refine lv_icmp_ne (tgt := 104) hx hb dX12_span_90 (by decide) (fun c37 => ?_) (fun c37 => ?_)
                      · have h := sh_f c37 h
                        refine lv_iload_n hx hb dX12_span_104 rfl (lv_at hl 2 rfl) ?_
                        refine lv_iconst (v := (3 : Int32)) hx hb dX12_span_105 (by decide) ?_
                        refine lv_icmp_ne (tgt := 124) hx hb dX12_span_106 (by decide) (fun c38 => ?_) (fun c38 => ?_)
                        · have h := sh_f c38 h
                          refine lv_iconst (v := (0 : Int32)) hx hb dX12_span_124 (by decide) ?_
                          refine lv_iadd hx hb dX12_span_125 ?_
                          refine lv_topi (fun v39 ev39 => ?_)
                          have h := nm_a ev39 h
                          refine lv_istore_n (lv' := [(3, .int v39), (0, .ref (ad 12 0)), (1, .int x1), (2, .int x2), (4, .int i7)]) hx hb dX12_span_126 rfl hl (by decide) rfl (fun ls hl => ?_)
                          obtain ⟨v40, ev40⟩ : ∃ y : Int32, y = i7 + (1 : Int32) := ⟨_, rfl⟩
                          have h := nm_a ev40 h
                          refine lv_iinc (v := v40) (lv' := [(4, .int v40), (3, .int v39), (0, .ref (ad 12 0)), (1, .int x1), (2, .int x2)]) hx hb dX12_span_127 hl (k := 4) rfl (by rw [ev40]; rfl) (by decide) rfl (fun ls hl => ?_)
                          refine lv_goto (tgt := 24) hx hb dX12_span_130 (by decide) ?_
                          exact ih5 v39 v40 _ _ _ hW hS (lv_sub hl [2, 3, 4, 1, 0] rfl) h
                        · have h := sh_t c38 h
                          refine lv_aload_n hx hb dX12_span_109 rfl (lv_at hl 0 rfl) ?_
                          refine gtX12_47 hx hb hts hown hK hW cz12 dX12_span_110 ?_
                          refine lv_iload hx hb dX12_span_113 (lv_at hl 4 rfl) ?_
                          obtain ⟨hj, h⟩ := ix_a h
                          refine al62 hx hb hK hW cz62 hj dX12_span_115 ?_
                          refine lv_iconst (v := (1 : Int32)) hx hb dX12_span_116 (by decide) ?_
                          refine lv_icmp_ne (tgt := 124) hx hb dX12_span_117 (by decide) (fun c41 => ?_) (fun c41 => ?_)
                          · have h := sh_f c41 h
                            refine lv_iconst (v := (0 : Int32)) hx hb dX12_span_124 (by decide) ?_
                            refine lv_iadd hx hb dX12_span_125 ?_
                            refine lv_topi (fun v42 ev42 => ?_)
                            have h := nm_a ev42 h
                            refine lv_istore_n (lv' := [(3, .int v42), (0, .ref (ad 12 0)), (1, .int x1), (2, .int x2), (4, .int i7)]) hx hb dX12_span_126 rfl hl (by decide) rfl (fun ls hl => ?_)
                            obtain ⟨v43, ev43⟩ : ∃ y : Int32, y = i7 + (1 : Int32) := ⟨_, rfl⟩
                            have h := nm_a ev43 h
                            refine lv_iinc (v := v43) (lv' := [(4, .int v43), (3, .int v42), (0, .ref (ad 12 0)), (1, .int x1), (2, .int x2)]) hx hb dX12_span_127 hl (k := 4) rfl (by rw [ev43]; rfl) (by decide) rfl (fun ls hl => ?_)
                            refine lv_goto (tgt := 24) hx hb dX12_span_130 (by decide) ?_
                            exact ih5 v42 v43 _ _ _ hW hS (lv_sub hl [2, 3, 4, 1, 0] rfl) h
                          · have h := sh_t c41 h
                            refine lv_iconst (v := (1 : Int32)) hx hb dX12_span_120 (by decide) ?_
                            refine lv_goto (tgt := 125) hx hb dX12_span_121 (by decide) ?_
                            refine lv_iadd hx hb dX12_span_125 ?_
                            refine lv_topi (fun v44 ev44 => ?_)
                            have h := nm_a ev44 h
                            refine lv_istore_n (lv' := [(3, .int v44), (0, .ref (ad 12 0)), (1, .int x1), (2, .int x2), (4, .int i7)]) hx hb dX12_span_126 rfl hl (by decide) rfl (fun ls hl => ?_)
                            obtain ⟨v45, ev45⟩ : ∃ y : Int32, y = i7 + (1 : Int32) := ⟨_, rfl⟩
                            have h := nm_a ev45 h
                            refine lv_iinc (v := v45) (lv' := [(4, .int v45), (3, .int v44), (0, .ref (ad 12 0)), (1, .int x1), (2, .int x2)]) hx hb dX12_span_127 hl (k := 4) rfl (by rw [ev45]; rfl) (by decide) rfl (fun ls hl => ?_)
                            refine lv_goto (tgt := 24) hx hb dX12_span_130 (by decide) ?_
                            exact ih5 v44 v45 _ _ _ hW hS (lv_sub hl [2, 3, 4, 1, 0] rfl) h
                      · have h := sh_t c37 h
                        refine lv_aload_n hx hb dX12_span_93 rfl (lv_at hl 0 rfl) ?_
                        refine gtX12_47 hx hb hts hown hK hW cz12 dX12_span_94 ?_
                        refine lv_iload hx hb dX12_span_97 (lv_at hl 4 rfl) ?_
                        obtain ⟨hj, h⟩ := ix_a h
                        refine al62 hx hb hK hW cz62 hj dX12_span_99 ?_
                        refine lv_iconst (v := (2 : Int32)) hx hb dX12_span_100 (by decide) ?_
                        refine lv_icmp_eq (tgt := 120) hx hb dX12_span_101 (by decide) (fun c46 => ?_) (fun c46 => ?_)
                        · have h := sh_t c46 h
                          refine lv_iconst (v := (1 : Int32)) hx hb dX12_span_120 (by decide) ?_
                          refine lv_goto (tgt := 125) hx hb dX12_span_121 (by decide) ?_
                          refine lv_iadd hx hb dX12_span_125 ?_
                          refine lv_topi (fun v47 ev47 => ?_)
                          have h := nm_a ev47 h
                          refine lv_istore_n (lv' := [(3, .int v47), (0, .ref (ad 12 0)), (1, .int x1), (2, .int x2), (4, .int i7)]) hx hb dX12_span_126 rfl hl (by decide) rfl (fun ls hl => ?_)
                          obtain ⟨v48, ev48⟩ : ∃ y : Int32, y = i7 + (1 : Int32) := ⟨_, rfl⟩
                          have h := nm_a ev48 h
                          refine lv_iinc (v := v48) (lv' := [(4, .int v48), (3, .int v47), (0, .ref (ad 12 0)), (1, .int x1), (2, .int x2)]) hx hb dX12_span_127 hl (k := 4) rfl (by rw [ev48]; rfl) (by decide) rfl (fun ls hl => ?_)
                          refine lv_goto (tgt := 24) hx hb dX12_span_130 (by decide) ?_
                          exact ih5 v47 v48 _ _ _ hW hS (lv_sub hl [2, 3, 4, 1, 0] rfl) h
                        · have h := sh_f c46 h
                          refine lv_iload_n hx hb dX12_span_104 rfl (lv_at hl 2 rfl) ?_
                          refine lv_iconst (v := (3 : Int32)) hx hb dX12_span_105 (by decide) ?_
                          refine lv_icmp_ne (tgt := 124) hx hb dX12_span_106 (by decide) (fun c49 => ?_) (fun c49 => ?_)
                          · have h := sh_f c49 h
                            refine lv_iconst (v := (0 : Int32)) hx hb dX12_span_124 (by decide) ?_
                            refine lv_iadd hx hb dX12_span_125 ?_
                            refine lv_topi (fun v50 ev50 => ?_)
                            have h := nm_a ev50 h
                            refine lv_istore_n (lv' := [(3, .int v50), (0, .ref (ad 12 0)), (1, .int x1), (2, .int x2), (4, .int i7)]) hx hb dX12_span_126 rfl hl (by decide) rfl (fun ls hl => ?_)
                            obtain ⟨v51, ev51⟩ : ∃ y : Int32, y = i7 + (1 : Int32) := ⟨_, rfl⟩
                            have h := nm_a ev51 h
                            refine lv_iinc (v := v51) (lv' := [(4, .int v51), (3, .int v50), (0, .ref (ad 12 0)), (1, .int x1), (2, .int x2)]) hx hb dX12_span_127 hl (k := 4) rfl (by rw [ev51]; rfl) (by decide) rfl (fun ls hl => ?_)
                            refine lv_goto (tgt := 24) hx hb dX12_span_130 (by decide) ?_
                            exact ih5 v50 v51 _ _ _ hW hS (lv_sub hl [2, 3, 4, 1, 0] rfl) h
                          · have h := sh_t c49 h
                            refine lv_aload_n hx hb dX12_span_109 rfl (lv_at hl 0 rfl) ?_
                            refine gtX12_47 hx hb hts hown hK hW cz12 dX12_span_110 ?_
                            refine lv_iload hx hb dX12_span_113 (lv_at hl 4 rfl) ?_
                            obtain ⟨hj, h⟩ := ix_a h
                            refine al62 hx hb hK hW cz62 hj dX12_span_115 ?_
                            refine lv_iconst (v := (1 : Int32)) hx hb dX12_span_116 (by decide) ?_
                            refine lv_icmp_ne (tgt := 124) hx hb dX12_span_117 (by decide) (fun c52 => ?_) (fun c52 => ?_)
                            · have h := sh_f c52 h
                              refine lv_iconst (v := (0 : Int32)) hx hb dX12_span_124 (by decide) ?_
                              refine lv_iadd hx hb dX12_span_125 ?_
                              refine lv_topi (fun v53 ev53 => ?_)
                              have h := nm_a ev53 h
                              refine lv_istore_n (lv' := [(3, .int v53), (0, .ref (ad 12 0)), (1, .int x1), (2, .int x2), (4, .int i7)]) hx hb dX12_span_126 rfl hl (by decide) rfl (fun ls hl => ?_)
                              obtain ⟨v54, ev54⟩ : ∃ y : Int32, y = i7 + (1 : Int32) := ⟨_, rfl⟩
                              have h := nm_a ev54 h
                              refine lv_iinc (v := v54) (lv' := [(4, .int v54), (3, .int v53), (0, .ref (ad 12 0)), (1, .int x1), (2, .int x2)]) hx hb dX12_span_127 hl (k := 4) rfl (by rw [ev54]; rfl) (by decide) rfl (fun ls hl => ?_)
                              refine lv_goto (tgt := 24) hx hb dX12_span_130 (by decide) ?_
                              exact ih5 v53 v54 _ _ _ hW hS (lv_sub hl [2, 3, 4, 1, 0] rfl) h
                            · have h := sh_t c52 h
                              refine lv_iconst (v := (1 : Int32)) hx hb dX12_span_120 (by decide) ?_
                              refine lv_goto (tgt := 125) hx hb dX12_span_121 (by decide) ?_
                              refine lv_iadd hx hb dX12_span_125 ?_
                              refine lv_topi (fun v55 ev55 => ?_)
                              have h := nm_a ev55 h
                              refine lv_istore_n (lv' := [(3, .int v55), (0, .ref (ad 12 0)), (1, .int x1), (2, .int x2), (4, .int i7)]) hx hb dX12_span_126 rfl hl (by decide) rfl (fun ls hl => ?_)
                              obtain ⟨v56, ev56⟩ : ∃ y : Int32, y = i7 + (1 : Int32) := ⟨_, rfl⟩
                              have h := nm_a ev56 h
                              refine lv_iinc (v := v56) (lv' := [(4, .int v56), (3, .int v55), (0, .ref (ad 12 0)), (1, .int x1), (2, .int x2)]) hx hb dX12_span_127 hl (k := 4) rfl (by rw [ev56]; rfl) (by decide) rfl (fun ls hl => ?_)
                              refine lv_goto (tgt := 24) hx hb dX12_span_130 (by decide) ?_
                              exact ih5 v55 v56 _ _ _ hW hS (lv_sub hl [2, 3, 4, 1, 0] rfl) h
                · have h := sh_t c12 h
                  refine lv_aload_n hx hb dX12_span_62 rfl (lv_at hl 0 rfl) ?_
                  refine gtX12_47 hx hb hts hown hK hW cz12 dX12_span_63 ?_
                  refine lv_iload hx hb dX12_span_66 (lv_at hl 4 rfl) ?_
                  obtain ⟨hj, h⟩ := ix_a h
                  refine al62 hx hb hK hW cz62 hj dX12_span_68 ?_
                  refine lv_if_eq (tgt := 120) hx hb dX12_span_69 (by decide) (fun c57 => ?_) (fun c57 => ?_)
                  · have h := sh_t c57 h
                    refine lv_iconst (v := (1 : Int32)) hx hb dX12_span_120 (by decide) ?_
                    refine lv_goto (tgt := 125) hx hb dX12_span_121 (by decide) ?_
                    refine lv_iadd hx hb dX12_span_125 ?_
                    refine lv_topi (fun v58 ev58 => ?_)
                    have h := nm_a ev58 h
                    refine lv_istore_n (lv' := [(3, .int v58), (0, .ref (ad 12 0)), (1, .int x1), (2, .int x2), (4, .int i7)]) hx hb dX12_span_126 rfl hl (by decide) rfl (fun ls hl => ?_)
                    obtain ⟨v59, ev59⟩ : ∃ y : Int32, y = i7 + (1 : Int32) := ⟨_, rfl⟩
                    have h := nm_a ev59 h
                    refine lv_iinc (v := v59) (lv' := [(4, .int v59), (3, .int v58), (0, .ref (ad 12 0)), (1, .int x1), (2, .int x2)]) hx hb dX12_span_127 hl (k := 4) rfl (by rw [ev59]; rfl) (by decide) rfl (fun ls hl => ?_)
                    refine lv_goto (tgt := 24) hx hb dX12_span_130 (by decide) ?_
                    exact ih5 v58 v59 _ _ _ hW hS (lv_sub hl [2, 3, 4, 1, 0] rfl) h
                  · have h := sh_f c57 h
                    refine lv_iload_n hx hb dX12_span_72 rfl (lv_at hl 2 rfl) ?_
                    refine lv_iconst (v := (1 : Int32)) hx hb dX12_span_73 (by decide) ?_
                    refine lv_icmp_ne (tgt := 88) hx hb dX12_span_74 (by decide) (fun c60 => ?_) (fun c60 => ?_)
                    · have h := sh_f c60 h
                      refine lv_iload_n hx hb dX12_span_88 rfl (lv_at hl 2 rfl) ?_
                      refine lv_iconst (v := (2 : Int32)) hx hb dX12_span_89 (by decide) ?_
                      refine lv_icmp_ne (tgt := 104) hx hb dX12_span_90 (by decide) (fun c61 => ?_) (fun c61 => ?_)
                      · have h := sh_f c61 h
                        refine lv_iload_n hx hb dX12_span_104 rfl (lv_at hl 2 rfl) ?_
                        refine lv_iconst (v := (3 : Int32)) hx hb dX12_span_105 (by decide) ?_
                        refine lv_icmp_ne (tgt := 124) hx hb dX12_span_106 (by decide) (fun c62 => ?_) (fun c62 => ?_)
                        · have h := sh_f c62 h
                          refine lv_iconst (v := (0 : Int32)) hx hb dX12_span_124 (by decide) ?_
                          refine lv_iadd hx hb dX12_span_125 ?_
                          refine lv_topi (fun v63 ev63 => ?_)
                          have h := nm_a ev63 h
                          refine lv_istore_n (lv' := [(3, .int v63), (0, .ref (ad 12 0)), (1, .int x1), (2, .int x2), (4, .int i7)]) hx hb dX12_span_126 rfl hl (by decide) rfl (fun ls hl => ?_)
                          obtain ⟨v64, ev64⟩ : ∃ y : Int32, y = i7 + (1 : Int32) := ⟨_, rfl⟩
                          have h := nm_a ev64 h
                          refine lv_iinc (v := v64) (lv' := [(4, .int v64), (3, .int v63), (0, .ref (ad 12 0)), (1, .int x1), (2, .int x2)]) hx hb dX12_span_127 hl (k := 4) rfl (by rw [ev64]; rfl) (by decide) rfl (fun ls hl => ?_)
                          refine lv_goto (tgt := 24) hx hb dX12_span_130 (by decide) ?_
                          exact ih5 v63 v64 _ _ _ hW hS (lv_sub hl [2, 3, 4, 1, 0] rfl) h
                        · have h := sh_t c62 h
                          refine lv_aload_n hx hb dX12_span_109 rfl (lv_at hl 0 rfl) ?_
                          refine gtX12_47 hx hb hts hown hK hW cz12 dX12_span_110 ?_
                          refine lv_iload hx hb dX12_span_113 (lv_at hl 4 rfl) ?_
                          obtain ⟨hj, h⟩ := ix_a h
                          refine al62 hx hb hK hW cz62 hj dX12_span_115 ?_
                          refine lv_iconst (v := (1 : Int32)) hx hb dX12_span_116 (by decide) ?_
                          refine lv_icmp_ne (tgt := 124) hx hb dX12_span_117 (by decide) (fun c65 => ?_) (fun c65 => ?_)
                          · have h := sh_f c65 h
                            refine lv_iconst (v := (0 : Int32)) hx hb dX12_span_124 (by decide) ?_
                            refine lv_iadd hx hb dX12_span_125 ?_
                            refine lv_topi (fun v66 ev66 => ?_)
                            have h := nm_a ev66 h
                            refine lv_istore_n (lv' := [(3, .int v66), (0, .ref (ad 12 0)), (1, .int x1), (2, .int x2), (4, .int i7)]) hx hb dX12_span_126 rfl hl (by decide) rfl (fun ls hl => ?_)
                            obtain ⟨v67, ev67⟩ : ∃ y : Int32, y = i7 + (1 : Int32) := ⟨_, rfl⟩
                            have h := nm_a ev67 h
                            refine lv_iinc (v := v67) (lv' := [(4, .int v67), (3, .int v66), (0, .ref (ad 12 0)), (1, .int x1), (2, .int x2)]) hx hb dX12_span_127 hl (k := 4) rfl (by rw [ev67]; rfl) (by decide) rfl (fun ls hl => ?_)
                            refine lv_goto (tgt := 24) hx hb dX12_span_130 (by decide) ?_
                            exact ih5 v66 v67 _ _ _ hW hS (lv_sub hl [2, 3, 4, 1, 0] rfl) h
                          · have h := sh_t c65 h
                            refine lv_iconst (v := (1 : Int32)) hx hb dX12_span_120 (by decide) ?_
                            refine lv_goto (tgt := 125) hx hb dX12_span_121 (by decide) ?_
                            refine lv_iadd hx hb dX12_span_125 ?_
                            refine lv_topi (fun v68 ev68 => ?_)
                            have h := nm_a ev68 h
                            refine lv_istore_n (lv' := [(3, .int v68), (0, .ref (ad 12 0)), (1, .int x1), (2, .int x2), (4, .int i7)]) hx hb dX12_span_126 rfl hl (by decide) rfl (fun ls hl => ?_)
                            obtain ⟨v69, ev69⟩ : ∃ y : Int32, y = i7 + (1 : Int32) := ⟨_, rfl⟩
                            have h := nm_a ev69 h
                            refine lv_iinc (v := v69) (lv' := [(4, .int v69), (3, .int v68), (0, .ref (ad 12 0)), (1, .int x1), (2, .int x2)]) hx hb dX12_span_127 hl (k := 4) rfl (by rw [ev69]; rfl) (by decide) rfl (fun ls hl => ?_)
                            refine lv_goto (tgt := 24) hx hb dX12_span_130 (by decide) ?_
                            exact ih5 v68 v69 _ _ _ hW hS (lv_sub hl [2, 3, 4, 1, 0] rfl) h
                      · have h := sh_t c61 h
                        refine lv_aload_n hx hb dX12_span_93 rfl (lv_at hl 0 rfl) ?_
                        refine gtX12_47 hx hb hts hown hK hW cz12 dX12_span_94 ?_
                        refine lv_iload hx hb dX12_span_97 (lv_at hl 4 rfl) ?_
                        obtain ⟨hj, h⟩ := ix_a h
                        refine al62 hx hb hK hW cz62 hj dX12_span_99 ?_
                        refine lv_iconst (v := (2 : Int32)) hx hb dX12_span_100 (by decide) ?_
                        refine lv_icmp_eq (tgt := 120) hx hb dX12_span_101 (by decide) (fun c70 => ?_) (fun c70 => ?_)
                        · have h := sh_t c70 h
                          refine lv_iconst (v := (1 : Int32)) hx hb dX12_span_120 (by decide) ?_
                          refine lv_goto (tgt := 125) hx hb dX12_span_121 (by decide) ?_
                          refine lv_iadd hx hb dX12_span_125 ?_
                          refine lv_topi (fun v71 ev71 => ?_)
                          have h := nm_a ev71 h
                          refine lv_istore_n (lv' := [(3, .int v71), (0, .ref (ad 12 0)), (1, .int x1), (2, .int x2), (4, .int i7)]) hx hb dX12_span_126 rfl hl (by decide) rfl (fun ls hl => ?_)
                          obtain ⟨v72, ev72⟩ : ∃ y : Int32, y = i7 + (1 : Int32) := ⟨_, rfl⟩
                          have h := nm_a ev72 h
                          refine lv_iinc (v := v72) (lv' := [(4, .int v72), (3, .int v71), (0, .ref (ad 12 0)), (1, .int x1), (2, .int x2)]) hx hb dX12_span_127 hl (k := 4) rfl (by rw [ev72]; rfl) (by decide) rfl (fun ls hl => ?_)
                          refine lv_goto (tgt := 24) hx hb dX12_span_130 (by decide) ?_
                          exact ih5 v71 v72 _ _ _ hW hS (lv_sub hl [2, 3, 4, 1, 0] rfl) h
                        · have h := sh_f c70 h
                          refine lv_iload_n hx hb dX12_span_104 rfl (lv_at hl 2 rfl) ?_
                          refine lv_iconst (v := (3 : Int32)) hx hb dX12_span_105 (by decide) ?_
                          refine lv_icmp_ne (tgt := 124) hx hb dX12_span_106 (by decide) (fun c73 => ?_) (fun c73 => ?_)
                          · have h := sh_f c73 h
                            refine lv_iconst (v := (0 : Int32)) hx hb dX12_span_124 (by decide) ?_
                            refine lv_iadd hx hb dX12_span_125 ?_
                            refine lv_topi (fun v74 ev74 => ?_)
                            have h := nm_a ev74 h
                            refine lv_istore_n (lv' := [(3, .int v74), (0, .ref (ad 12 0)), (1, .int x1), (2, .int x2), (4, .int i7)]) hx hb dX12_span_126 rfl hl (by decide) rfl (fun ls hl => ?_)
                            obtain ⟨v75, ev75⟩ : ∃ y : Int32, y = i7 + (1 : Int32) := ⟨_, rfl⟩
                            have h := nm_a ev75 h
                            refine lv_iinc (v := v75) (lv' := [(4, .int v75), (3, .int v74), (0, .ref (ad 12 0)), (1, .int x1), (2, .int x2)]) hx hb dX12_span_127 hl (k := 4) rfl (by rw [ev75]; rfl) (by decide) rfl (fun ls hl => ?_)
                            refine lv_goto (tgt := 24) hx hb dX12_span_130 (by decide) ?_
                            exact ih5 v74 v75 _ _ _ hW hS (lv_sub hl [2, 3, 4, 1, 0] rfl) h
                          · have h := sh_t c73 h
                            refine lv_aload_n hx hb dX12_span_109 rfl (lv_at hl 0 rfl) ?_
                            refine gtX12_47 hx hb hts hown hK hW cz12 dX12_span_110 ?_
                            refine lv_iload hx hb dX12_span_113 (lv_at hl 4 rfl) ?_
                            obtain ⟨hj, h⟩ := ix_a h
                            refine al62 hx hb hK hW cz62 hj dX12_span_115 ?_
                            refine lv_iconst (v := (1 : Int32)) hx hb dX12_span_116 (by decide) ?_
                            refine lv_icmp_ne (tgt := 124) hx hb dX12_span_117 (by decide) (fun c76 => ?_) (fun c76 => ?_)
                            · have h := sh_f c76 h
                              refine lv_iconst (v := (0 : Int32)) hx hb dX12_span_124 (by decide) ?_
                              refine lv_iadd hx hb dX12_span_125 ?_
                              refine lv_topi (fun v77 ev77 => ?_)
                              have h := nm_a ev77 h
                              refine lv_istore_n (lv' := [(3, .int v77), (0, .ref (ad 12 0)), (1, .int x1), (2, .int x2), (4, .int i7)]) hx hb dX12_span_126 rfl hl (by decide) rfl (fun ls hl => ?_)
                              obtain ⟨v78, ev78⟩ : ∃ y : Int32, y = i7 + (1 : Int32) := ⟨_, rfl⟩
                              have h := nm_a ev78 h
                              refine lv_iinc (v := v78) (lv' := [(4, .int v78), (3, .int v77), (0, .ref (ad 12 0)), (1, .int x1), (2, .int x2)]) hx hb dX12_span_127 hl (k := 4) rfl (by rw [ev78]; rfl) (by decide) rfl (fun ls hl => ?_)
                              refine lv_goto (tgt := 24) hx hb dX12_span_130 (by decide) ?_
                              exact ih5 v77 v78 _ _ _ hW hS (lv_sub hl [2, 3, 4, 1, 0] rfl) h
                            · have h := sh_t c76 h
                              refine lv_iconst (v := (1 : Int32)) hx hb dX12_span_120 (by decide) ?_
                              refine lv_goto (tgt := 125) hx hb dX12_span_121 (by decide) ?_
                              refine lv_iadd hx hb dX12_span_125 ?_
                              refine lv_topi (fun v79 ev79 => ?_)
                              have h := nm_a ev79 h
                              refine lv_istore_n (lv' := [(3, .int v79), (0, .ref (ad 12 0)), (1, .int x1), (2, .int x2), (4, .int i7)]) hx hb dX12_span_126 rfl hl (by decide) rfl (fun ls hl => ?_)
                              obtain ⟨v80, ev80⟩ : ∃ y : Int32, y = i7 + (1 : Int32) := ⟨_, rfl⟩
                              have h := nm_a ev80 h
                              refine lv_iinc (v := v80) (lv' := [(4, .int v80), (3, .int v79), (0, .ref (ad 12 0)), (1, .int x1), (2, .int x2)]) hx hb dX12_span_127 hl (k := 4) rfl (by rw [ev80]; rfl) (by decide) rfl (fun ls hl => ?_)
                              refine lv_goto (tgt := 24) hx hb dX12_span_130 (by decide) ?_
                              exact ih5 v79 v80 _ _ _ hW hS (lv_sub hl [2, 3, 4, 1, 0] rfl) h
                    · have h := sh_t c60 h
                      refine lv_aload_n hx hb dX12_span_77 rfl (lv_at hl 0 rfl) ?_
                      refine gtX12_47 hx hb hts hown hK hW cz12 dX12_span_78 ?_
                      refine lv_iload hx hb dX12_span_81 (lv_at hl 4 rfl) ?_
                      obtain ⟨hj, h⟩ := ix_a h
                      refine al62 hx hb hK hW cz62 hj dX12_span_83 ?_
                      refine lv_iconst (v := (1 : Int32)) hx hb dX12_span_84 (by decide) ?_
                      refine lv_icmp_ne (tgt := 120) hx hb dX12_span_85 (by decide) (fun c81 => ?_) (fun c81 => ?_)
                      · have h := sh_f c81 h
                        refine lv_iconst (v := (1 : Int32)) hx hb dX12_span_120 (by decide) ?_
                        refine lv_goto (tgt := 125) hx hb dX12_span_121 (by decide) ?_
                        refine lv_iadd hx hb dX12_span_125 ?_
                        refine lv_topi (fun v82 ev82 => ?_)
                        have h := nm_a ev82 h
                        refine lv_istore_n (lv' := [(3, .int v82), (0, .ref (ad 12 0)), (1, .int x1), (2, .int x2), (4, .int i7)]) hx hb dX12_span_126 rfl hl (by decide) rfl (fun ls hl => ?_)
                        obtain ⟨v83, ev83⟩ : ∃ y : Int32, y = i7 + (1 : Int32) := ⟨_, rfl⟩
                        have h := nm_a ev83 h
                        refine lv_iinc (v := v83) (lv' := [(4, .int v83), (3, .int v82), (0, .ref (ad 12 0)), (1, .int x1), (2, .int x2)]) hx hb dX12_span_127 hl (k := 4) rfl (by rw [ev83]; rfl) (by decide) rfl (fun ls hl => ?_)
                        refine lv_goto (tgt := 24) hx hb dX12_span_130 (by decide) ?_
                        exact ih5 v82 v83 _ _ _ hW hS (lv_sub hl [2, 3, 4, 1, 0] rfl) h
                      · have h := sh_t c81 h
                        refine lv_iload_n hx hb dX12_span_88 rfl (lv_at hl 2 rfl) ?_
                        refine lv_iconst (v := (2 : Int32)) hx hb dX12_span_89 (by decide) ?_
                        refine lv_icmp_ne (tgt := 104) hx hb dX12_span_90 (by decide) (fun c84 => ?_) (fun c84 => ?_)
                        · have h := sh_f c84 h
                          refine lv_iload_n hx hb dX12_span_104 rfl (lv_at hl 2 rfl) ?_
                          refine lv_iconst (v := (3 : Int32)) hx hb dX12_span_105 (by decide) ?_
                          refine lv_icmp_ne (tgt := 124) hx hb dX12_span_106 (by decide) (fun c85 => ?_) (fun c85 => ?_)
                          · have h := sh_f c85 h
                            refine lv_iconst (v := (0 : Int32)) hx hb dX12_span_124 (by decide) ?_
                            refine lv_iadd hx hb dX12_span_125 ?_
                            refine lv_topi (fun v86 ev86 => ?_)
                            have h := nm_a ev86 h
                            refine lv_istore_n (lv' := [(3, .int v86), (0, .ref (ad 12 0)), (1, .int x1), (2, .int x2), (4, .int i7)]) hx hb dX12_span_126 rfl hl (by decide) rfl (fun ls hl => ?_)
                            obtain ⟨v87, ev87⟩ : ∃ y : Int32, y = i7 + (1 : Int32) := ⟨_, rfl⟩
                            have h := nm_a ev87 h
                            refine lv_iinc (v := v87) (lv' := [(4, .int v87), (3, .int v86), (0, .ref (ad 12 0)), (1, .int x1), (2, .int x2)]) hx hb dX12_span_127 hl (k := 4) rfl (by rw [ev87]; rfl) (by decide) rfl (fun ls hl => ?_)
                            refine lv_goto (tgt := 24) hx hb dX12_span_130 (by decide) ?_
                            exact ih5 v86 v87 _ _ _ hW hS (lv_sub hl [2, 3, 4, 1, 0] rfl) h
                          · have h := sh_t c85 h
                            refine lv_aload_n hx hb dX12_span_109 rfl (lv_at hl 0 rfl) ?_
                            refine gtX12_47 hx hb hts hown hK hW cz12 dX12_span_110 ?_
                            refine lv_iload hx hb dX12_span_113 (lv_at hl 4 rfl) ?_
                            obtain ⟨hj, h⟩ := ix_a h
                            refine al62 hx hb hK hW cz62 hj dX12_span_115 ?_
                            refine lv_iconst (v := (1 : Int32)) hx hb dX12_span_116 (by decide) ?_
                            refine lv_icmp_ne (tgt := 124) hx hb dX12_span_117 (by decide) (fun c88 => ?_) (fun c88 => ?_)
                            · have h := sh_f c88 h
                              refine lv_iconst (v := (0 : Int32)) hx hb dX12_span_124 (by decide) ?_
                              refine lv_iadd hx hb dX12_span_125 ?_
                              refine lv_topi (fun v89 ev89 => ?_)
                              have h := nm_a ev89 h
                              refine lv_istore_n (lv' := [(3, .int v89), (0, .ref (ad 12 0)), (1, .int x1), (2, .int x2), (4, .int i7)]) hx hb dX12_span_126 rfl hl (by decide) rfl (fun ls hl => ?_)
                              obtain ⟨v90, ev90⟩ : ∃ y : Int32, y = i7 + (1 : Int32) := ⟨_, rfl⟩
                              have h := nm_a ev90 h
                              refine lv_iinc (v := v90) (lv' := [(4, .int v90), (3, .int v89), (0, .ref (ad 12 0)), (1, .int x1), (2, .int x2)]) hx hb dX12_span_127 hl (k := 4) rfl (by rw [ev90]; rfl) (by decide) rfl (fun ls hl => ?_)
                              refine lv_goto (tgt := 24) hx hb dX12_span_130 (by decide) ?_
                              exact ih5 v89 v90 _ _ _ hW hS (lv_sub hl [2, 3, 4, 1, 0] rfl) h
                            · have h := sh_t c88 h
                              refine lv_iconst (v := (1 : Int32)) hx hb dX12_span_120 (by decide) ?_
                              refine lv_goto (tgt := 125) hx hb dX12_span_121 (by decide) ?_
                              refine lv_iadd hx hb dX12_span_125 ?_
                              refine lv_topi (fun v91 ev91 => ?_)
                              have h := nm_a ev91 h
                              refine lv_istore_n (lv' := [(3, .int v91), (0, .ref (ad 12 0)), (1, .int x1), (2, .int x2), (4, .int i7)]) hx hb dX12_span_126 rfl hl (by decide) rfl (fun ls hl => ?_)
                              obtain ⟨v92, ev92⟩ : ∃ y : Int32, y = i7 + (1 : Int32) := ⟨_, rfl⟩
                              have h := nm_a ev92 h
                              refine lv_iinc (v := v92) (lv' := [(4, .int v92), (3, .int v91), (0, .ref (ad 12 0)), (1, .int x1), (2, .int x2)]) hx hb dX12_span_127 hl (k := 4) rfl (by rw [ev92]; rfl) (by decide) rfl (fun ls hl => ?_)
                              refine lv_goto (tgt := 24) hx hb dX12_span_130 (by decide) ?_
                              exact ih5 v91 v92 _ _ _ hW hS (lv_sub hl [2, 3, 4, 1, 0] rfl) h
                        · have h := sh_t c84 h
                          refine lv_aload_n hx hb dX12_span_93 rfl (lv_at hl 0 rfl) ?_
                          refine gtX12_47 hx hb hts hown hK hW cz12 dX12_span_94 ?_
                          refine lv_iload hx hb dX12_span_97 (lv_at hl 4 rfl) ?_
                          obtain ⟨hj, h⟩ := ix_a h
                          refine al62 hx hb hK hW cz62 hj dX12_span_99 ?_
                          refine lv_iconst (v := (2 : Int32)) hx hb dX12_span_100 (by decide) ?_
                          refine lv_icmp_eq (tgt := 120) hx hb dX12_span_101 (by decide) (fun c93 => ?_) (fun c93 => ?_)
                          · have h := sh_t c93 h
                            refine lv_iconst (v := (1 : Int32)) hx hb dX12_span_120 (by decide) ?_
                            refine lv_goto (tgt := 125) hx hb dX12_span_121 (by decide) ?_
                            refine lv_iadd hx hb dX12_span_125 ?_
                            refine lv_topi (fun v94 ev94 => ?_)
                            have h := nm_a ev94 h
                            refine lv_istore_n (lv' := [(3, .int v94), (0, .ref (ad 12 0)), (1, .int x1), (2, .int x2), (4, .int i7)]) hx hb dX12_span_126 rfl hl (by decide) rfl (fun ls hl => ?_)
                            obtain ⟨v95, ev95⟩ : ∃ y : Int32, y = i7 + (1 : Int32) := ⟨_, rfl⟩
                            have h := nm_a ev95 h
                            refine lv_iinc (v := v95) (lv' := [(4, .int v95), (3, .int v94), (0, .ref (ad 12 0)), (1, .int x1), (2, .int x2)]) hx hb dX12_span_127 hl (k := 4) rfl (by rw [ev95]; rfl) (by decide) rfl (fun ls hl => ?_)
                            refine lv_goto (tgt := 24) hx hb dX12_span_130 (by decide) ?_
                            exact ih5 v94 v95 _ _ _ hW hS (lv_sub hl [2, 3, 4, 1, 0] rfl) h
                          · have h := sh_f c93 h
                            refine lv_iload_n hx hb dX12_span_104 rfl (lv_at hl 2 rfl) ?_
                            refine lv_iconst (v := (3 : Int32)) hx hb dX12_span_105 (by decide) ?_
                            refine lv_icmp_ne (tgt := 124) hx hb dX12_span_106 (by decide) (fun c96 => ?_) (fun c96 => ?_)
                            · have h := sh_f c96 h
                              refine lv_iconst (v := (0 : Int32)) hx hb dX12_span_124 (by decide) ?_
                              refine lv_iadd hx hb dX12_span_125 ?_
                              refine lv_topi (fun v97 ev97 => ?_)
                              have h := nm_a ev97 h
                              refine lv_istore_n (lv' := [(3, .int v97), (0, .ref (ad 12 0)), (1, .int x1), (2, .int x2), (4, .int i7)]) hx hb dX12_span_126 rfl hl (by decide) rfl (fun ls hl => ?_)
                              obtain ⟨v98, ev98⟩ : ∃ y : Int32, y = i7 + (1 : Int32) := ⟨_, rfl⟩
                              have h := nm_a ev98 h
                              refine lv_iinc (v := v98) (lv' := [(4, .int v98), (3, .int v97), (0, .ref (ad 12 0)), (1, .int x1), (2, .int x2)]) hx hb dX12_span_127 hl (k := 4) rfl (by rw [ev98]; rfl) (by decide) rfl (fun ls hl => ?_)
                              refine lv_goto (tgt := 24) hx hb dX12_span_130 (by decide) ?_
                              exact ih5 v97 v98 _ _ _ hW hS (lv_sub hl [2, 3, 4, 1, 0] rfl) h
                            · have h := sh_t c96 h
                              refine lv_aload_n hx hb dX12_span_109 rfl (lv_at hl 0 rfl) ?_
                              refine gtX12_47 hx hb hts hown hK hW cz12 dX12_span_110 ?_
                              refine lv_iload hx hb dX12_span_113 (lv_at hl 4 rfl) ?_
                              obtain ⟨hj, h⟩ := ix_a h
                              refine al62 hx hb hK hW cz62 hj dX12_span_115 ?_
                              refine lv_iconst (v := (1 : Int32)) hx hb dX12_span_116 (by decide) ?_
                              refine lv_icmp_ne (tgt := 124) hx hb dX12_span_117 (by decide) (fun c99 => ?_) (fun c99 => ?_)
                              · have h := sh_f c99 h
                                refine lv_iconst (v := (0 : Int32)) hx hb dX12_span_124 (by decide) ?_
                                refine lv_iadd hx hb dX12_span_125 ?_
                                refine lv_topi (fun v100 ev100 => ?_)
                                have h := nm_a ev100 h
                                refine lv_istore_n (lv' := [(3, .int v100), (0, .ref (ad 12 0)), (1, .int x1), (2, .int x2), (4, .int i7)]) hx hb dX12_span_126 rfl hl (by decide) rfl (fun ls hl => ?_)
                                obtain ⟨v101, ev101⟩ : ∃ y : Int32, y = i7 + (1 : Int32) := ⟨_, rfl⟩
                                have h := nm_a ev101 h
                                refine lv_iinc (v := v101) (lv' := [(4, .int v101), (3, .int v100), (0, .ref (ad 12 0)), (1, .int x1), (2, .int x2)]) hx hb dX12_span_127 hl (k := 4) rfl (by rw [ev101]; rfl) (by decide) rfl (fun ls hl => ?_)
                                refine lv_goto (tgt := 24) hx hb dX12_span_130 (by decide) ?_
                                exact ih5 v100 v101 _ _ _ hW hS (lv_sub hl [2, 3, 4, 1, 0] rfl) h
                              · have h := sh_t c99 h
                                refine lv_iconst (v := (1 : Int32)) hx hb dX12_span_120 (by decide) ?_
                                refine lv_goto (tgt := 125) hx hb dX12_span_121 (by decide) ?_
                                refine lv_iadd hx hb dX12_span_125 ?_
                                refine lv_topi (fun v102 ev102 => ?_)
                                have h := nm_a ev102 h
                                refine lv_istore_n (lv' := [(3, .int v102), (0, .ref (ad 12 0)), (1, .int x1), (2, .int x2), (4, .int i7)]) hx hb dX12_span_126 rfl hl (by decide) rfl (fun ls hl => ?_)
                                obtain ⟨v103, ev103⟩ : ∃ y : Int32, y = i7 + (1 : Int32) := ⟨_, rfl⟩
                                have h := nm_a ev103 h
                                refine lv_iinc (v := v103) (lv' := [(4, .int v103), (3, .int v102), (0, .ref (ad 12 0)), (1, .int x1), (2, .int x2)]) hx hb dX12_span_127 hl (k := 4) rfl (by rw [ev103]; rfl) (by decide) rfl (fun ls hl => ?_)
                                refine lv_goto (tgt := 24) hx hb dX12_span_130 (by decide) ?_
                                exact ih5 v102 v103 _ _ _ hW hS (lv_sub hl [2, 3, 4, 1, 0] rfl) h
              · have h := sh_f c11 h
                refine lv_goto (tgt := 127) hx hb dX12_span_54 (by decide) ?_
                obtain ⟨v104, ev104⟩ : ∃ y : Int32, y = i7 + (1 : Int32) := ⟨_, rfl⟩
                have h := nm_a ev104 h
                refine lv_iinc (v := v104) (lv' := [(4, .int v104), (0, .ref (ad 12 0)), (1, .int x1), (2, .int x2), (3, .int i6)]) hx hb dX12_span_127 hl (k := 4) rfl (by rw [ev104]; rfl) (by decide) rfl (fun ls hl => ?_)
                refine lv_goto (tgt := 24) hx hb dX12_span_130 (by decide) ?_
                exact ih5 i6 v104 _ _ _ hW hS (lv_sub hl [1, 2, 3, 4, 0] rfl) h
      exact L5 FU (0 : Int32) (0 : Int32) _ _ _ hW hS (lv_sub hl [2, 3, 4, 1, 0] rfl) h
    · have h := sh_t c4 h
      refine lv_iconst (v := (-1 : Int32)) hx hb dX12_span_17 (by decide) ?_
      exact tb_iretO h hx hb hr hS hW hlk dX12_span_18
def fX12_isUnder (x0 : Int32) (x1 : Int32) : Int32 :=
  if x1 = 0 then ((1 : Int32)) else (if x0 = x1 then ((1 : Int32)) else (if x1 = (2 : Int32) then (if x0 = (3 : Int32) then ((1 : Int32)) else (if x1 = (4 : Int32) then (if x0 = (5 : Int32) then ((1 : Int32)) else (if x0 = (6 : Int32) then ((1 : Int32)) else (if x1 = (5 : Int32) then (if x0 = (6 : Int32) then ((1 : Int32)) else ((0 : Int32))) else ((0 : Int32))))) else (if x1 = (5 : Int32) then (if x0 = (6 : Int32) then ((1 : Int32)) else ((0 : Int32))) else ((0 : Int32))))) else (if x1 = (4 : Int32) then (if x0 = (5 : Int32) then ((1 : Int32)) else (if x0 = (6 : Int32) then ((1 : Int32)) else (if x1 = (5 : Int32) then (if x0 = (6 : Int32) then ((1 : Int32)) else ((0 : Int32))) else ((0 : Int32))))) else (if x1 = (5 : Int32) then (if x0 = (6 : Int32) then ((1 : Int32)) else ((0 : Int32))) else ((0 : Int32))))))
set_option maxHeartbeats 4000000 in
set_option maxRecDepth 100000 in
theorem mX12_isUnder {l : Launch} {D : va_G} {cy : Nat → ClassId} {A : Nat → Prop} {Z : State → Heap → Prop} {ad : Nat → Nat → Nat} (hZk : ZOK A Z) (x0 : Int32) (x1 : Int32) (M0 : Mem) (r : Int32) (h : fX12_isUnder x0 x1 = r) : Met l yX12_isUnder (wt yX12_isUnder cX12_isUnder 2 (some .boolean)) (rm 0 0) (CPre D cy A Z cnM ad M0 [.int x0, .int x1]) (QZ D cy A cnM ad r M0) 0 0 A := by
  refine tb_start [.int x0, .int x1] [(0, .int x0), (1, .int x1)] RX12 rfl (by decide +kernel) (Nat.le_of_ble_eq_true rfl) rfl (fun p e s m args below meth c hx hb hr hml hown hts hlk hW hK hZ ls hl => ?_)
  have hS : va_S A s.heap s.heap [] := va_S.rf
  unfold fX12_isUnder at h
  refine lv_iload_n hx hb dX12_isUnder_0 rfl (lv_at hl 1 rfl) ?_
  refine lv_if_eq (tgt := 9) hx hb dX12_isUnder_1 (by decide) (fun c1 => ?_) (fun c1 => ?_)
  · have h := sh_t c1 h
    refine lv_iconst (v := (1 : Int32)) hx hb dX12_isUnder_9 (by decide) ?_
    exact tb_zretP h hx hb hr hS hW hlk (by decide) dX12_isUnder_10
  · have h := sh_f c1 h
    refine lv_iload_n hx hb dX12_isUnder_4 rfl (lv_at hl 0 rfl) ?_
    refine lv_iload_n hx hb dX12_isUnder_5 rfl (lv_at hl 1 rfl) ?_
    refine lv_icmp_ne (tgt := 11) hx hb dX12_isUnder_6 (by decide) (fun c2 => ?_) (fun c2 => ?_)
    · have h := sh_f c2 h
      refine lv_iload_n hx hb dX12_isUnder_11 rfl (lv_at hl 1 rfl) ?_
      refine lv_iconst (v := (2 : Int32)) hx hb dX12_isUnder_12 (by decide) ?_
      refine lv_icmp_ne (tgt := 21) hx hb dX12_isUnder_13 (by decide) (fun c3 => ?_) (fun c3 => ?_)
      · have h := sh_f c3 h
        refine lv_iload_n hx hb dX12_isUnder_21 rfl (lv_at hl 1 rfl) ?_
        refine lv_iconst (v := (4 : Int32)) hx hb dX12_isUnder_22 (by decide) ?_
        refine lv_icmp_ne (tgt := 37) hx hb dX12_isUnder_23 (by decide) (fun c4 => ?_) (fun c4 => ?_)
        · have h := sh_f c4 h
          refine lv_iload_n hx hb dX12_isUnder_37 rfl (lv_at hl 1 rfl) ?_
          refine lv_iconst (v := (5 : Int32)) hx hb dX12_isUnder_38 (by decide) ?_
          refine lv_icmp_ne (tgt := 52) hx hb dX12_isUnder_39 (by decide) (fun c5 => ?_) (fun c5 => ?_)
          · have h := sh_f c5 h
            refine lv_iconst (v := (0 : Int32)) hx hb dX12_isUnder_52 (by decide) ?_
            exact tb_zretP h hx hb hr hS hW hlk (by decide) dX12_isUnder_53
          · have h := sh_t c5 h
            refine lv_iload_n hx hb dX12_isUnder_42 rfl (lv_at hl 0 rfl) ?_
            refine lv_bipush (v := (6 : Int32)) hx hb dX12_isUnder_43 (by decide) ?_
            refine lv_icmp_ne (tgt := 52) hx hb dX12_isUnder_45 (by decide) (fun c6 => ?_) (fun c6 => ?_)
            · have h := sh_f c6 h
              refine lv_iconst (v := (0 : Int32)) hx hb dX12_isUnder_52 (by decide) ?_
              exact tb_zretP h hx hb hr hS hW hlk (by decide) dX12_isUnder_53
            · have h := sh_t c6 h
              refine lv_iconst (v := (1 : Int32)) hx hb dX12_isUnder_48 (by decide) ?_
              refine lv_goto (tgt := 53) hx hb dX12_isUnder_49 (by decide) ?_
              exact tb_zretP h hx hb hr hS hW hlk (by decide) dX12_isUnder_53
        · have h := sh_t c4 h
          refine lv_iload_n hx hb dX12_isUnder_26 rfl (lv_at hl 0 rfl) ?_
          refine lv_iconst (v := (5 : Int32)) hx hb dX12_isUnder_27 (by decide) ?_
          refine lv_icmp_eq (tgt := 48) hx hb dX12_isUnder_28 (by decide) (fun c7 => ?_) (fun c7 => ?_)
          · have h := sh_t c7 h
            refine lv_iconst (v := (1 : Int32)) hx hb dX12_isUnder_48 (by decide) ?_
            refine lv_goto (tgt := 53) hx hb dX12_isUnder_49 (by decide) ?_
            exact tb_zretP h hx hb hr hS hW hlk (by decide) dX12_isUnder_53
          · have h := sh_f c7 h
            refine lv_iload_n hx hb dX12_isUnder_31 rfl (lv_at hl 0 rfl) ?_
            refine lv_bipush (v := (6 : Int32)) hx hb dX12_isUnder_32 (by decide) ?_
            refine lv_icmp_eq (tgt := 48) hx hb dX12_isUnder_34 (by decide) (fun c8 => ?_) (fun c8 => ?_)
            · have h := sh_t c8 h
              refine lv_iconst (v := (1 : Int32)) hx hb dX12_isUnder_48 (by decide) ?_
              refine lv_goto (tgt := 53) hx hb dX12_isUnder_49 (by decide) ?_
              exact tb_zretP h hx hb hr hS hW hlk (by decide) dX12_isUnder_53
            · have h := sh_f c8 h
              refine lv_iload_n hx hb dX12_isUnder_37 rfl (lv_at hl 1 rfl) ?_
              refine lv_iconst (v := (5 : Int32)) hx hb dX12_isUnder_38 (by decide) ?_
              refine lv_icmp_ne (tgt := 52) hx hb dX12_isUnder_39 (by decide) (fun c9 => ?_) (fun c9 => ?_)
              · have h := sh_f c9 h
                refine lv_iconst (v := (0 : Int32)) hx hb dX12_isUnder_52 (by decide) ?_
                exact tb_zretP h hx hb hr hS hW hlk (by decide) dX12_isUnder_53
              · have h := sh_t c9 h
                refine lv_iload_n hx hb dX12_isUnder_42 rfl (lv_at hl 0 rfl) ?_
                refine lv_bipush (v := (6 : Int32)) hx hb dX12_isUnder_43 (by decide) ?_
                refine lv_icmp_ne (tgt := 52) hx hb dX12_isUnder_45 (by decide) (fun c10 => ?_) (fun c10 => ?_)
                · have h := sh_f c10 h
                  refine lv_iconst (v := (0 : Int32)) hx hb dX12_isUnder_52 (by decide) ?_
                  exact tb_zretP h hx hb hr hS hW hlk (by decide) dX12_isUnder_53
                · have h := sh_t c10 h
                  refine lv_iconst (v := (1 : Int32)) hx hb dX12_isUnder_48 (by decide) ?_
                  refine lv_goto (tgt := 53) hx hb dX12_isUnder_49 (by decide) ?_
                  exact tb_zretP h hx hb hr hS hW hlk (by decide) dX12_isUnder_53
      · have h := sh_t c3 h
        refine lv_iload_n hx hb dX12_isUnder_16 rfl (lv_at hl 0 rfl) ?_
        refine lv_iconst (v := (3 : Int32)) hx hb dX12_isUnder_17 (by decide) ?_
        refine lv_icmp_eq (tgt := 48) hx hb dX12_isUnder_18 (by decide) (fun c11 => ?_) (fun c11 => ?_)
        · have h := sh_t c11 h
          refine lv_iconst (v := (1 : Int32)) hx hb dX12_isUnder_48 (by decide) ?_
          refine lv_goto (tgt := 53) hx hb dX12_isUnder_49 (by decide) ?_
          exact tb_zretP h hx hb hr hS hW hlk (by decide) dX12_isUnder_53
        · have h := sh_f c11 h
          refine lv_iload_n hx hb dX12_isUnder_21 rfl (lv_at hl 1 rfl) ?_
          refine lv_iconst (v := (4 : Int32)) hx hb dX12_isUnder_22 (by decide) ?_
          refine lv_icmp_ne (tgt := 37) hx hb dX12_isUnder_23 (by decide) (fun c12 => ?_) (fun c12 => ?_)
          · have h := sh_f c12 h
            refine lv_iload_n hx hb dX12_isUnder_37 rfl (lv_at hl 1 rfl) ?_
            refine lv_iconst (v := (5 : Int32)) hx hb dX12_isUnder_38 (by decide) ?_
            refine lv_icmp_ne (tgt := 52) hx hb dX12_isUnder_39 (by decide) (fun c13 => ?_) (fun c13 => ?_)
            · have h := sh_f c13 h
              refine lv_iconst (v := (0 : Int32)) hx hb dX12_isUnder_52 (by decide) ?_
              exact tb_zretP h hx hb hr hS hW hlk (by decide) dX12_isUnder_53
            · have h := sh_t c13 h
              refine lv_iload_n hx hb dX12_isUnder_42 rfl (lv_at hl 0 rfl) ?_
              refine lv_bipush (v := (6 : Int32)) hx hb dX12_isUnder_43 (by decide) ?_
              refine lv_icmp_ne (tgt := 52) hx hb dX12_isUnder_45 (by decide) (fun c14 => ?_) (fun c14 => ?_)
              · have h := sh_f c14 h
                refine lv_iconst (v := (0 : Int32)) hx hb dX12_isUnder_52 (by decide) ?_
                exact tb_zretP h hx hb hr hS hW hlk (by decide) dX12_isUnder_53
              · have h := sh_t c14 h
                refine lv_iconst (v := (1 : Int32)) hx hb dX12_isUnder_48 (by decide) ?_
                refine lv_goto (tgt := 53) hx hb dX12_isUnder_49 (by decide) ?_
                exact tb_zretP h hx hb hr hS hW hlk (by decide) dX12_isUnder_53
          · have h := sh_t c12 h
            refine lv_iload_n hx hb dX12_isUnder_26 rfl (lv_at hl 0 rfl) ?_
            refine lv_iconst (v := (5 : Int32)) hx hb dX12_isUnder_27 (by decide) ?_
            refine lv_icmp_eq (tgt := 48) hx hb dX12_isUnder_28 (by decide) (fun c15 => ?_) (fun c15 => ?_)
            · have h := sh_t c15 h
              refine lv_iconst (v := (1 : Int32)) hx hb dX12_isUnder_48 (by decide) ?_
              refine lv_goto (tgt := 53) hx hb dX12_isUnder_49 (by decide) ?_
              exact tb_zretP h hx hb hr hS hW hlk (by decide) dX12_isUnder_53
            · have h := sh_f c15 h
              refine lv_iload_n hx hb dX12_isUnder_31 rfl (lv_at hl 0 rfl) ?_
              refine lv_bipush (v := (6 : Int32)) hx hb dX12_isUnder_32 (by decide) ?_
              refine lv_icmp_eq (tgt := 48) hx hb dX12_isUnder_34 (by decide) (fun c16 => ?_) (fun c16 => ?_)
              · have h := sh_t c16 h
                refine lv_iconst (v := (1 : Int32)) hx hb dX12_isUnder_48 (by decide) ?_
                refine lv_goto (tgt := 53) hx hb dX12_isUnder_49 (by decide) ?_
                exact tb_zretP h hx hb hr hS hW hlk (by decide) dX12_isUnder_53
              · have h := sh_f c16 h
                refine lv_iload_n hx hb dX12_isUnder_37 rfl (lv_at hl 1 rfl) ?_
                refine lv_iconst (v := (5 : Int32)) hx hb dX12_isUnder_38 (by decide) ?_
                refine lv_icmp_ne (tgt := 52) hx hb dX12_isUnder_39 (by decide) (fun c17 => ?_) (fun c17 => ?_)
                · have h := sh_f c17 h
                  refine lv_iconst (v := (0 : Int32)) hx hb dX12_isUnder_52 (by decide) ?_
                  exact tb_zretP h hx hb hr hS hW hlk (by decide) dX12_isUnder_53
                · have h := sh_t c17 h
                  refine lv_iload_n hx hb dX12_isUnder_42 rfl (lv_at hl 0 rfl) ?_
                  refine lv_bipush (v := (6 : Int32)) hx hb dX12_isUnder_43 (by decide) ?_
                  refine lv_icmp_ne (tgt := 52) hx hb dX12_isUnder_45 (by decide) (fun c18 => ?_) (fun c18 => ?_)
                  · have h := sh_f c18 h
                    refine lv_iconst (v := (0 : Int32)) hx hb dX12_isUnder_52 (by decide) ?_
                    exact tb_zretP h hx hb hr hS hW hlk (by decide) dX12_isUnder_53
                  · have h := sh_t c18 h
                    refine lv_iconst (v := (1 : Int32)) hx hb dX12_isUnder_48 (by decide) ?_
                    refine lv_goto (tgt := 53) hx hb dX12_isUnder_49 (by decide) ?_
                    exact tb_zretP h hx hb hr hS hW hlk (by decide) dX12_isUnder_53
    · have h := sh_t c2 h
      refine lv_iconst (v := (1 : Int32)) hx hb dX12_isUnder_9 (by decide) ?_
      exact tb_zretP h hx hb hr hS hW hlk (by decide) dX12_isUnder_10
def fX12_ran (x1 : Int32) (M0 : Mem) : Option (Unit × Mem) :=
  if (24 : Int32) ≤ (mgI M0 1251 0 0) then (nm ((mgI M0 1251 0 0) + (1 : Int32)) fun v2 => nm (msI M0 1251 0 0 v2) fun M3 => some ((), M3)) else (ix (mgI M0 1251 0 0) 24 <| nm (msI M0 8800 0 ((mgI M0 1251 0 0).toNatClampNeg) x1) fun M4 => nm ((mgI M4 1251 0 0) + (1 : Int32)) fun v5 => nm (msI M4 1251 0 0 v5) fun M6 => some ((), M6))
set_option maxHeartbeats 4000000 in
set_option maxRecDepth 100000 in
theorem mX12_ran {l : Launch} {D : va_G} {cy : Nat → ClassId} {A : Nat → Prop} {Z : State → Heap → Prop} {ad : Nat → Nat → Nat} (hZk : ZOK A Z) (x1 : Int32) (M0 : Mem) (r : Unit) (M' : Mem) (h : fX12_ran x1 M0 = some (r, M')) : Met l yX12_ran (wt yX12_ran cX12_ran 2 none) (rm 0 0) (CPre D cy A Z cnM ad M0 [.ref (ad 12 0), .int x1]) (QV D cy A cnM ad r M') 0 0 A := by
  refine tb_start [.ref (ad 12 0), .int x1] [(0, .ref (ad 12 0)), (1, .int x1)] RX12 rfl (by decide +kernel) (Nat.le_of_ble_eq_true rfl) rfl (fun p e s m args below meth c hx hb hr hml hown hts hlk hW hK hZ ls hl => ?_)
  have hS : va_S A s.heap s.heap [] := va_S.rf
  unfold fX12_ran at h
  refine lv_aload_n hx hb dX12_ran_0 rfl (lv_at hl 0 rfl) ?_
  refine gtX12_347 hx hb hts hown hK hW cz12 dX12_ran_1 ?_
  refine lv_bipush (v := (24 : Int32)) hx hb dX12_ran_4 (by decide) ?_
  refine lv_icmp_ge (tgt := 19) hx hb dX12_ran_6 (by decide) (fun c1 => ?_) (fun c1 => ?_)
  · have h := sh_t c1 h
    refine lv_aload_n hx hb dX12_ran_19 rfl (lv_at hl 0 rfl) ?_
    refine lv_dup hx hb dX12_ran_20 rfl ?_
    refine gtX12_347 hx hb hts hown hK hW cz12 dX12_ran_21 ?_
    refine lv_iconst (v := (1 : Int32)) hx hb dX12_ran_24 (by decide) ?_
    refine lv_iadd hx hb dX12_ran_25 ?_
    refine lv_topi (fun v2 ev2 => ?_)
    have h := nm_a ev2 h
    refine ptX12_347 hx hb hts hown hK hW hS cz12 dX12_ran_26 (fun H locs hW hS => ?_)
    obtain ⟨M3, eM3⟩ : ∃ y, y = msI M0 1251 0 0 v2 := ⟨_, rfl⟩
    have h := nm_a eM3 h
    rw [← eM3] at hW
    exact tb_vretE h hx hb hr hS hW hlk dX12_ran_29
  · have h := sh_f c1 h
    refine lv_aload_n hx hb dX12_ran_9 rfl (lv_at hl 0 rfl) ?_
    refine gtX12_128 hx hb hts hown hK hW cz12 dX12_ran_10 ?_
    refine lv_aload_n hx hb dX12_ran_13 rfl (lv_at hl 0 rfl) ?_
    refine gtX12_347 hx hb hts hown hK hW cz12 dX12_ran_14 ?_
    refine lv_iload_n hx hb dX12_ran_17 rfl (lv_at hl 1 rfl) ?_
    obtain ⟨hj, h⟩ := ix_a h
    refine as88 hx hb hK hW hS cz88 hj dX12_ran_18 (fun H locs hW hS => ?_)
    obtain ⟨M4, eM4⟩ : ∃ y, y = msI M0 8800 0 ((mgI M0 1251 0 0).toNatClampNeg) x1 := ⟨_, rfl⟩
    have h := nm_a eM4 h
    rw [← eM4] at hW
    refine lv_aload_n hx hb dX12_ran_19 rfl (lv_at hl 0 rfl) ?_
    refine lv_dup hx hb dX12_ran_20 rfl ?_
    refine gtX12_347 hx hb hts hown hK hW cz12 dX12_ran_21 ?_
    refine lv_iconst (v := (1 : Int32)) hx hb dX12_ran_24 (by decide) ?_
    refine lv_iadd hx hb dX12_ran_25 ?_
    refine lv_topi (fun v5 ev5 => ?_)
    have h := nm_a ev5 h
    refine ptX12_347 hx hb hts hown hK hW hS cz12 dX12_ran_26 (fun H locs hW hS => ?_)
    obtain ⟨M6, eM6⟩ : ∃ y, y = msI M4 1251 0 0 v5 := ⟨_, rfl⟩
    have h := nm_a eM6 h
    rw [← eM6] at hW
    exact tb_vretE h hx hb hr hS hW hlk dX12_ran_29
def fX12_plainStands (x1 : Int32) (x2 : Int32) (M0 : Mem) : Option (Int32 × Mem) :=
  bE (fX12_ran (1 : Int32) M0) fun u1 M2 => some (x2 + x1, M2)
set_option maxHeartbeats 4000000 in
set_option maxRecDepth 100000 in
theorem mX12_plainStands {l : Launch} {D : va_G} {cy : Nat → ClassId} {A : Nat → Prop} {Z : State → Heap → Prop} {ad : Nat → Nat → Nat} (hZk : ZOK A Z) (x1 : Int32) (x2 : Int32) (M0 : Mem) (r : Int32) (M' : Mem) (h : fX12_plainStands x1 x2 M0 = some (r, M')) : Met l yX12_plainStands (wt yX12_plainStands cX12_plainStands 3 (some .int)) (rm 1 21) (CPre D cy A Z cnM ad M0 [.ref (ad 12 0), .int x1, .int x2]) (QI D cy A cnM ad r M') 0 0 A := by
  refine tb_start [.ref (ad 12 0), .int x1, .int x2] [(0, .ref (ad 12 0)), (1, .int x1), (2, .int x2)] RX12 rfl (by decide +kernel) (Nat.le_of_ble_eq_true rfl) rfl (fun p e s m args below meth c hx hb hr hml hown hts hlk hW hK hZ ls hl => ?_)
  have hS : va_S A s.heap s.heap [] := va_S.rf
  unfold fX12_plainStands at h
  refine lv_aload_n hx hb dX12_plainStands_0 rfl (lv_at hl 0 rfl) ?_
  refine lv_iconst (v := (1 : Int32)) hx hb dX12_plainStands_1 (by decide) ?_
  obtain ⟨u1, M2, hcu1, h⟩ := bE_a h
  refine tb_cVV hZk hx hb hml hown hts hK hZ hW hS [.int (1 : Int32)] (mX12_ran (l := l) hZk (1 : Int32) M0 u1 M2 hcu1) pmX12_ran tw1714 (Wd.recv hK hW (t := 12) (by decide) cz12 (C := RX12) (T := TX12) (N := 58) rfl) ⟨Nat.le_of_ble_eq_true rfl, Nat.le_of_ble_eq_true rfl⟩ rfl hl.1 (Nat.le_of_ble_eq_true rfl) ⟨Nat.le_refl _, Nat.le_refl _⟩ rfl dX12_plainStands_2 (fun H locs hW hS => ?_)
  refine lv_iload_n hx hb dX12_plainStands_5 rfl (lv_at hl 2 rfl) ?_
  refine lv_iload_n hx hb dX12_plainStands_6 rfl (lv_at hl 1 rfl) ?_
  refine lv_iadd hx hb dX12_plainStands_7 ?_
  exact tb_iretE h hx hb hr hS hW hlk dX12_plainStands_8
def fX12_stands (x1 : Int32) (x2 : Int32) (M0 : Mem) : Option (Int32 × Mem) :=
  nm (fX12_isUnder (mgI M0 1253 0 0) (2 : Int32)) fun b1 => if b1 = 0 then (if (mgI M0 1253 0 0) = (6 : Int32) then (bE (fX12_ran (70 : Int32) M0) fun u6 M7 => bE (fX12_plainStands x1 (x2 + (1 : Int32)) M7) fun b8 M9 => some (b8, M9)) else (bE (fX12_plainStands x1 x2 M0) fun b4 M5 => some (b4, M5))) else (bE (fX12_ran (30 : Int32) M0) fun u10 M11 => bE (fX12_plainStands x1 x2 M11) fun b12 M13 => bd (fX12_linesOf x1 M13) fun b14 => some (b12 + b14, M13))
set_option maxHeartbeats 4000000 in
set_option maxRecDepth 100000 in
theorem mX12_stands {l : Launch} {D : va_G} {cy : Nat → ClassId} {A : Nat → Prop} {Z : State → Heap → Prop} {ad : Nat → Nat → Nat} (hZk : ZOK A Z) (x1 : Int32) (x2 : Int32) (M0 : Mem) (r : Int32) (M' : Mem) (h : fX12_stands x1 x2 M0 = some (r, M')) : Met l yX12_stands (wt yX12_stands cX12_stands 3 (some .int)) (rm 2 43) (CPre D cy A Z cnM ad M0 [.ref (ad 12 0), .int x1, .int x2]) (QI D cy A cnM ad r M') 0 0 A := by
  refine tb_start [.ref (ad 12 0), .int x1, .int x2] [(0, .ref (ad 12 0)), (1, .int x1), (2, .int x2)] RX12 rfl (by decide +kernel) (Nat.le_of_ble_eq_true rfl) rfl (fun p e s m args below meth c hx hb hr hml hown hts hlk hW hK hZ ls hl => ?_)
  have hS : va_S A s.heap s.heap [] := va_S.rf
  unfold fX12_stands at h
  refine lv_aload_n hx hb dX12_stands_0 rfl (lv_at hl 0 rfl) ?_
  refine gtX12_353 hx hb hts hown hK hW cz12 dX12_stands_1 ?_
  refine lv_iconst (v := (2 : Int32)) hx hb dX12_stands_4 (by decide) ?_
  refine tb_cSZ hZk hx hb hml hown hts hK hZ hW hS [.int (mgI M0 1253 0 0), .int (2 : Int32)] (mX12_isUnder (l := l) hZk (mgI M0 1253 0 0) (2 : Int32) M0 (fX12_isUnder (mgI M0 1253 0 0) (2 : Int32)) rfl) pmX12_isUnder tw1711 ⟨Nat.le_of_ble_eq_true rfl, Nat.le_of_ble_eq_true rfl⟩ rfl hl.1 (Nat.le_of_ble_eq_true rfl) ⟨Nat.le_refl _, Nat.le_refl _⟩ rfl dX12_stands_5 (fun H locs hW hS hzz => ?_)
  refine lv_topi (fun b1 eb1 => ?_)
  have h := nm_a eb1 h
  have hzb1 : b1 = 0 ∨ b1 = 1 := by rw [eb1]; exact hzz
  refine lv_if_eq (tgt := 30) hx hb dX12_stands_8 (by decide) (fun c2 => ?_) (fun c2 => ?_)
  · have h := sh_t c2 h
    refine lv_aload_n hx hb dX12_stands_30 rfl (lv_at hl 0 rfl) ?_
    refine gtX12_353 hx hb hts hown hK hW cz12 dX12_stands_31 ?_
    refine lv_bipush (v := (6 : Int32)) hx hb dX12_stands_34 (by decide) ?_
    refine lv_icmp_ne (tgt := 54) hx hb dX12_stands_36 (by decide) (fun c3 => ?_) (fun c3 => ?_)
    · have h := sh_f c3 h
      refine lv_aload_n hx hb dX12_stands_54 rfl (lv_at hl 0 rfl) ?_
      refine lv_iload_n hx hb dX12_stands_55 rfl (lv_at hl 1 rfl) ?_
      refine lv_iload_n hx hb dX12_stands_56 rfl (lv_at hl 2 rfl) ?_
      obtain ⟨b4, M5, hcb4, h⟩ := bE_a h
      refine tb_cVI hZk hx hb hml hown hts hK hZ hW hS [.int x1, .int x2] (mX12_plainStands (l := l) hZk x1 x2 M0 b4 M5 hcb4) pmX12_plainStands tw1718 (Wd.recv hK hW (t := 12) (by decide) cz12 (C := RX12) (T := TX12) (N := 58) rfl) ⟨Nat.le_of_ble_eq_true rfl, Nat.le_of_ble_eq_true rfl⟩ rfl hl.1 (Nat.le_of_ble_eq_true rfl) ⟨Nat.le_refl _, Nat.le_refl _⟩ rfl dX12_stands_57 (fun H locs hW hS => ?_)
      exact tb_iretE h hx hb hr hS hW hlk dX12_stands_60
    · have h := sh_t c3 h
      refine lv_aload_n hx hb dX12_stands_39 rfl (lv_at hl 0 rfl) ?_
      refine lv_bipush (v := (70 : Int32)) hx hb dX12_stands_40 (by decide) ?_
      obtain ⟨u6, M7, hcu6, h⟩ := bE_a h
      refine tb_cVV hZk hx hb hml hown hts hK hZ hW hS [.int (70 : Int32)] (mX12_ran (l := l) hZk (70 : Int32) M0 u6 M7 hcu6) pmX12_ran tw1714 (Wd.recv hK hW (t := 12) (by decide) cz12 (C := RX12) (T := TX12) (N := 58) rfl) ⟨Nat.le_of_ble_eq_true rfl, Nat.le_of_ble_eq_true rfl⟩ rfl hl.1 (Nat.le_of_ble_eq_true rfl) ⟨Nat.le_refl _, Nat.le_refl _⟩ rfl dX12_stands_42 (fun H locs hW hS => ?_)
      refine lv_aload_n hx hb dX12_stands_45 rfl (lv_at hl 0 rfl) ?_
      refine lv_iload_n hx hb dX12_stands_46 rfl (lv_at hl 1 rfl) ?_
      refine lv_iload_n hx hb dX12_stands_47 rfl (lv_at hl 2 rfl) ?_
      refine lv_iconst (v := (1 : Int32)) hx hb dX12_stands_48 (by decide) ?_
      refine lv_iadd hx hb dX12_stands_49 ?_
      obtain ⟨b8, M9, hcb8, h⟩ := bE_a h
      refine tb_cVI hZk hx hb hml hown hts hK hZ hW hS [.int x1, .int (x2 + (1 : Int32))] (mX12_plainStands (l := l) hZk x1 (x2 + (1 : Int32)) M7 b8 M9 hcb8) pmX12_plainStands tw1718 (Wd.recv hK hW (t := 12) (by decide) cz12 (C := RX12) (T := TX12) (N := 58) rfl) ⟨Nat.le_of_ble_eq_true rfl, Nat.le_of_ble_eq_true rfl⟩ rfl hl.1 (Nat.le_of_ble_eq_true rfl) ⟨Nat.le_refl _, Nat.le_refl _⟩ rfl dX12_stands_50 (fun H locs hW hS => ?_)
      exact tb_iretE h hx hb hr hS hW hlk dX12_stands_53
  · have h := sh_f c2 h
    refine lv_aload_n hx hb dX12_stands_11 rfl (lv_at hl 0 rfl) ?_
    refine lv_bipush (v := (30 : Int32)) hx hb dX12_stands_12 (by decide) ?_
    obtain ⟨u10, M11, hcu10, h⟩ := bE_a h
    refine tb_cVV hZk hx hb hml hown hts hK hZ hW hS [.int (30 : Int32)] (mX12_ran (l := l) hZk (30 : Int32) M0 u10 M11 hcu10) pmX12_ran tw1714 (Wd.recv hK hW (t := 12) (by decide) cz12 (C := RX12) (T := TX12) (N := 58) rfl) ⟨Nat.le_of_ble_eq_true rfl, Nat.le_of_ble_eq_true rfl⟩ rfl hl.1 (Nat.le_of_ble_eq_true rfl) ⟨Nat.le_refl _, Nat.le_refl _⟩ rfl dX12_stands_14 (fun H locs hW hS => ?_)
    refine lv_aload_n hx hb dX12_stands_17 rfl (lv_at hl 0 rfl) ?_
    refine lv_iload_n hx hb dX12_stands_18 rfl (lv_at hl 1 rfl) ?_
    refine lv_iload_n hx hb dX12_stands_19 rfl (lv_at hl 2 rfl) ?_
    obtain ⟨b12, M13, hcb12, h⟩ := bE_a h
    refine tb_cVI hZk hx hb hml hown hts hK hZ hW hS [.int x1, .int x2] (mX12_plainStands (l := l) hZk x1 x2 M11 b12 M13 hcb12) pmX12_plainStands tw1718 (Wd.recv hK hW (t := 12) (by decide) cz12 (C := RX12) (T := TX12) (N := 58) rfl) ⟨Nat.le_of_ble_eq_true rfl, Nat.le_of_ble_eq_true rfl⟩ rfl hl.1 (Nat.le_of_ble_eq_true rfl) ⟨Nat.le_refl _, Nat.le_refl _⟩ rfl dX12_stands_20 (fun H locs hW hS => ?_)
    refine lv_aload_n hx hb dX12_stands_23 rfl (lv_at hl 0 rfl) ?_
    refine lv_iload_n hx hb dX12_stands_24 rfl (lv_at hl 1 rfl) ?_
    obtain ⟨b14, hcb14, h⟩ := bd_a h
    refine tb_cVI hZk hx hb hml hown hts hK hZ hW hS [.int x1] (mX12_linesOf (l := l) hZk x1 M13 b14 hcb14) pmX12_linesOf tw1468 (Wd.recv hK hW (t := 12) (by decide) cz12 (C := RX12) (T := TX12) (N := 58) rfl) ⟨Nat.le_of_ble_eq_true rfl, Nat.le_of_ble_eq_true rfl⟩ rfl hl.1 (Nat.le_of_ble_eq_true rfl) ⟨Nat.le_refl _, Nat.le_refl _⟩ rfl dX12_stands_25 (fun H locs hW hS => ?_)
    refine lv_iadd hx hb dX12_stands_28 ?_
    exact tb_iretE h hx hb hr hS hW hlk dX12_stands_29
def fX12_plainFalls (x1 : Int32) (x2 : Int32) (M0 : Mem) : Option (Int32 × Mem) :=
  bE (fX12_ran (10 : Int32) M0) fun u1 M2 => bE (fX12_stands x1 x2 M2) fun b3 M4 => some (b3 * (2 : Int32), M4)
set_option maxHeartbeats 4000000 in
set_option maxRecDepth 100000 in
theorem mX12_plainFalls {l : Launch} {D : va_G} {cy : Nat → ClassId} {A : Nat → Prop} {Z : State → Heap → Prop} {ad : Nat → Nat → Nat} (hZk : ZOK A Z) (x1 : Int32) (x2 : Int32) (M0 : Mem) (r : Int32) (M' : Mem) (h : fX12_plainFalls x1 x2 M0 = some (r, M')) : Met l yX12_plainFalls (wt yX12_plainFalls cX12_plainFalls 3 (some .int)) (rm 3 65) (CPre D cy A Z cnM ad M0 [.ref (ad 12 0), .int x1, .int x2]) (QI D cy A cnM ad r M') 0 0 A := by
  refine tb_start [.ref (ad 12 0), .int x1, .int x2] [(0, .ref (ad 12 0)), (1, .int x1), (2, .int x2)] RX12 rfl (by decide +kernel) (Nat.le_of_ble_eq_true rfl) rfl (fun p e s m args below meth c hx hb hr hml hown hts hlk hW hK hZ ls hl => ?_)
  have hS : va_S A s.heap s.heap [] := va_S.rf
  unfold fX12_plainFalls at h
  refine lv_aload_n hx hb dX12_plainFalls_0 rfl (lv_at hl 0 rfl) ?_
  refine lv_bipush (v := (10 : Int32)) hx hb dX12_plainFalls_1 (by decide) ?_
  obtain ⟨u1, M2, hcu1, h⟩ := bE_a h
  refine tb_cVV hZk hx hb hml hown hts hK hZ hW hS [.int (10 : Int32)] (mX12_ran (l := l) hZk (10 : Int32) M0 u1 M2 hcu1) pmX12_ran tw1714 (Wd.recv hK hW (t := 12) (by decide) cz12 (C := RX12) (T := TX12) (N := 58) rfl) ⟨Nat.le_of_ble_eq_true rfl, Nat.le_of_ble_eq_true rfl⟩ rfl hl.1 (Nat.le_of_ble_eq_true rfl) ⟨Nat.le_refl _, Nat.le_refl _⟩ rfl dX12_plainFalls_3 (fun H locs hW hS => ?_)
  refine lv_aload_n hx hb dX12_plainFalls_6 rfl (lv_at hl 0 rfl) ?_
  refine lv_iload_n hx hb dX12_plainFalls_7 rfl (lv_at hl 1 rfl) ?_
  refine lv_iload_n hx hb dX12_plainFalls_8 rfl (lv_at hl 2 rfl) ?_
  obtain ⟨b3, M4, hcb3, h⟩ := bE_a h
  refine tb_cVI hZk hx hb hml hown hts hK hZ hW hS [.int x1, .int x2] (mX12_stands (l := l) hZk x1 x2 M2 b3 M4 hcb3) pmX12_stands tw1707 (Wd.recv hK hW (t := 12) (by decide) cz12 (C := RX12) (T := TX12) (N := 58) rfl) ⟨Nat.le_of_ble_eq_true rfl, Nat.le_of_ble_eq_true rfl⟩ rfl hl.1 (Nat.le_of_ble_eq_true rfl) ⟨Nat.le_refl _, Nat.le_refl _⟩ rfl dX12_plainFalls_9 (fun H locs hW hS => ?_)
  refine lv_iconst (v := (2 : Int32)) hx hb dX12_plainFalls_12 (by decide) ?_
  refine lv_imul hx hb dX12_plainFalls_13 ?_
  exact tb_iretE h hx hb hr hS hW hlk dX12_plainFalls_14
def fX12_fallen (x1 : Int32) (x2 : Int32) (M0 : Mem) : Option (Int32 × Mem) :=
  if (mgI M0 1253 0 0) = (1 : Int32) then (bE (fX12_ran (20 : Int32) M0) fun u10 M11 => bE (fX12_plainFalls x1 x2 M11) fun b12 M13 => some (b12 + (3 : Int32), M13)) else (nm (fX12_isUnder (mgI M0 1253 0 0) (4 : Int32)) fun b2 => if b2 = 0 then (bE (fX12_plainFalls x1 x2 M0) fun b4 M5 => some (b4, M5)) else (bE (fX12_ran (50 : Int32) M0) fun u6 M7 => bE (fX12_plainFalls x1 x2 M7) fun b8 M9 => some (-b8, M9)))
set_option maxHeartbeats 4000000 in
set_option maxRecDepth 100000 in
theorem mX12_fallen {l : Launch} {D : va_G} {cy : Nat → ClassId} {A : Nat → Prop} {Z : State → Heap → Prop} {ad : Nat → Nat → Nat} (hZk : ZOK A Z) (x1 : Int32) (x2 : Int32) (M0 : Mem) (r : Int32) (M' : Mem) (h : fX12_fallen x1 x2 M0 = some (r, M')) : Met l yX12_fallen (wt yX12_fallen cX12_fallen 3 (some .int)) (rm 4 87) (CPre D cy A Z cnM ad M0 [.ref (ad 12 0), .int x1, .int x2]) (QI D cy A cnM ad r M') 0 0 A := by
  refine tb_start [.ref (ad 12 0), .int x1, .int x2] [(0, .ref (ad 12 0)), (1, .int x1), (2, .int x2)] RX12 rfl (by decide +kernel) (Nat.le_of_ble_eq_true rfl) rfl (fun p e s m args below meth c hx hb hr hml hown hts hlk hW hK hZ ls hl => ?_)
  have hS : va_S A s.heap s.heap [] := va_S.rf
  unfold fX12_fallen at h
  refine lv_aload_n hx hb dX12_fallen_0 rfl (lv_at hl 0 rfl) ?_
  refine gtX12_353 hx hb hts hown hK hW cz12 dX12_fallen_1 ?_
  refine lv_iconst (v := (1 : Int32)) hx hb dX12_fallen_4 (by decide) ?_
  refine lv_icmp_ne (tgt := 23) hx hb dX12_fallen_5 (by decide) (fun c1 => ?_) (fun c1 => ?_)
  · have h := sh_f c1 h
    refine lv_aload_n hx hb dX12_fallen_23 rfl (lv_at hl 0 rfl) ?_
    refine gtX12_353 hx hb hts hown hK hW cz12 dX12_fallen_24 ?_
    refine lv_iconst (v := (4 : Int32)) hx hb dX12_fallen_27 (by decide) ?_
    refine tb_cSZ hZk hx hb hml hown hts hK hZ hW hS [.int (mgI M0 1253 0 0), .int (4 : Int32)] (mX12_isUnder (l := l) hZk (mgI M0 1253 0 0) (4 : Int32) M0 (fX12_isUnder (mgI M0 1253 0 0) (4 : Int32)) rfl) pmX12_isUnder tw1711 ⟨Nat.le_of_ble_eq_true rfl, Nat.le_of_ble_eq_true rfl⟩ rfl hl.1 (Nat.le_of_ble_eq_true rfl) ⟨Nat.le_refl _, Nat.le_refl _⟩ rfl dX12_fallen_28 (fun H locs hW hS hzz => ?_)
    refine lv_topi (fun b2 eb2 => ?_)
    have h := nm_a eb2 h
    have hzb2 : b2 = 0 ∨ b2 = 1 := by rw [eb2]; exact hzz
    refine lv_if_eq (tgt := 48) hx hb dX12_fallen_31 (by decide) (fun c3 => ?_) (fun c3 => ?_)
    · have h := sh_t c3 h
      refine lv_aload_n hx hb dX12_fallen_48 rfl (lv_at hl 0 rfl) ?_
      refine lv_iload_n hx hb dX12_fallen_49 rfl (lv_at hl 1 rfl) ?_
      refine lv_iload_n hx hb dX12_fallen_50 rfl (lv_at hl 2 rfl) ?_
      obtain ⟨b4, M5, hcb4, h⟩ := bE_a h
      refine tb_cVI hZk hx hb hml hown hts hK hZ hW hS [.int x1, .int x2] (mX12_plainFalls (l := l) hZk x1 x2 M0 b4 M5 hcb4) pmX12_plainFalls tw1726 (Wd.recv hK hW (t := 12) (by decide) cz12 (C := RX12) (T := TX12) (N := 58) rfl) ⟨Nat.le_of_ble_eq_true rfl, Nat.le_of_ble_eq_true rfl⟩ rfl hl.1 (Nat.le_of_ble_eq_true rfl) ⟨Nat.le_refl _, Nat.le_refl _⟩ rfl dX12_fallen_51 (fun H locs hW hS => ?_)
      exact tb_iretE h hx hb hr hS hW hlk dX12_fallen_54
    · have h := sh_f c3 h
      refine lv_aload_n hx hb dX12_fallen_34 rfl (lv_at hl 0 rfl) ?_
      refine lv_bipush (v := (50 : Int32)) hx hb dX12_fallen_35 (by decide) ?_
      obtain ⟨u6, M7, hcu6, h⟩ := bE_a h
      refine tb_cVV hZk hx hb hml hown hts hK hZ hW hS [.int (50 : Int32)] (mX12_ran (l := l) hZk (50 : Int32) M0 u6 M7 hcu6) pmX12_ran tw1714 (Wd.recv hK hW (t := 12) (by decide) cz12 (C := RX12) (T := TX12) (N := 58) rfl) ⟨Nat.le_of_ble_eq_true rfl, Nat.le_of_ble_eq_true rfl⟩ rfl hl.1 (Nat.le_of_ble_eq_true rfl) ⟨Nat.le_refl _, Nat.le_refl _⟩ rfl dX12_fallen_37 (fun H locs hW hS => ?_)
      refine lv_aload_n hx hb dX12_fallen_40 rfl (lv_at hl 0 rfl) ?_
      refine lv_iload_n hx hb dX12_fallen_41 rfl (lv_at hl 1 rfl) ?_
      refine lv_iload_n hx hb dX12_fallen_42 rfl (lv_at hl 2 rfl) ?_
      obtain ⟨b8, M9, hcb8, h⟩ := bE_a h
      refine tb_cVI hZk hx hb hml hown hts hK hZ hW hS [.int x1, .int x2] (mX12_plainFalls (l := l) hZk x1 x2 M7 b8 M9 hcb8) pmX12_plainFalls tw1726 (Wd.recv hK hW (t := 12) (by decide) cz12 (C := RX12) (T := TX12) (N := 58) rfl) ⟨Nat.le_of_ble_eq_true rfl, Nat.le_of_ble_eq_true rfl⟩ rfl hl.1 (Nat.le_of_ble_eq_true rfl) ⟨Nat.le_refl _, Nat.le_refl _⟩ rfl dX12_fallen_43 (fun H locs hW hS => ?_)
      refine lv_ineg hx hb dX12_fallen_46 ?_
      exact tb_iretE h hx hb hr hS hW hlk dX12_fallen_47
  · have h := sh_t c1 h
    refine lv_aload_n hx hb dX12_fallen_8 rfl (lv_at hl 0 rfl) ?_
    refine lv_bipush (v := (20 : Int32)) hx hb dX12_fallen_9 (by decide) ?_
    obtain ⟨u10, M11, hcu10, h⟩ := bE_a h
    refine tb_cVV hZk hx hb hml hown hts hK hZ hW hS [.int (20 : Int32)] (mX12_ran (l := l) hZk (20 : Int32) M0 u10 M11 hcu10) pmX12_ran tw1714 (Wd.recv hK hW (t := 12) (by decide) cz12 (C := RX12) (T := TX12) (N := 58) rfl) ⟨Nat.le_of_ble_eq_true rfl, Nat.le_of_ble_eq_true rfl⟩ rfl hl.1 (Nat.le_of_ble_eq_true rfl) ⟨Nat.le_refl _, Nat.le_refl _⟩ rfl dX12_fallen_11 (fun H locs hW hS => ?_)
    refine lv_aload_n hx hb dX12_fallen_14 rfl (lv_at hl 0 rfl) ?_
    refine lv_iload_n hx hb dX12_fallen_15 rfl (lv_at hl 1 rfl) ?_
    refine lv_iload_n hx hb dX12_fallen_16 rfl (lv_at hl 2 rfl) ?_
    obtain ⟨b12, M13, hcb12, h⟩ := bE_a h
    refine tb_cVI hZk hx hb hml hown hts hK hZ hW hS [.int x1, .int x2] (mX12_plainFalls (l := l) hZk x1 x2 M11 b12 M13 hcb12) pmX12_plainFalls tw1726 (Wd.recv hK hW (t := 12) (by decide) cz12 (C := RX12) (T := TX12) (N := 58) rfl) ⟨Nat.le_of_ble_eq_true rfl, Nat.le_of_ble_eq_true rfl⟩ rfl hl.1 (Nat.le_of_ble_eq_true rfl) ⟨Nat.le_refl _, Nat.le_refl _⟩ rfl dX12_fallen_17 (fun H locs hW hS => ?_)
    refine lv_iconst (v := (3 : Int32)) hx hb dX12_fallen_20 (by decide) ?_
    refine lv_iadd hx hb dX12_fallen_21 ?_
    exact tb_iretE h hx hb hr hS hW hlk dX12_fallen_22
def fX12_plainHears (x1 : Int32) (x2 : Int32) (M0 : Mem) : Option (Int32 × Mem) :=
  bE (fX12_ran (11 : Int32) M0) fun u1 M2 => some (x2 ^^^ x1, M2)
set_option maxHeartbeats 4000000 in
set_option maxRecDepth 100000 in
theorem mX12_plainHears {l : Launch} {D : va_G} {cy : Nat → ClassId} {A : Nat → Prop} {Z : State → Heap → Prop} {ad : Nat → Nat → Nat} (hZk : ZOK A Z) (x1 : Int32) (x2 : Int32) (M0 : Mem) (r : Int32) (M' : Mem) (h : fX12_plainHears x1 x2 M0 = some (r, M')) : Met l yX12_plainHears (wt yX12_plainHears cX12_plainHears 3 (some .int)) (rm 1 21) (CPre D cy A Z cnM ad M0 [.ref (ad 12 0), .int x1, .int x2]) (QI D cy A cnM ad r M') 0 0 A := by
  refine tb_start [.ref (ad 12 0), .int x1, .int x2] [(0, .ref (ad 12 0)), (1, .int x1), (2, .int x2)] RX12 rfl (by decide +kernel) (Nat.le_of_ble_eq_true rfl) rfl (fun p e s m args below meth c hx hb hr hml hown hts hlk hW hK hZ ls hl => ?_)
  have hS : va_S A s.heap s.heap [] := va_S.rf
  unfold fX12_plainHears at h
  refine lv_aload_n hx hb dX12_plainHears_0 rfl (lv_at hl 0 rfl) ?_
  refine lv_bipush (v := (11 : Int32)) hx hb dX12_plainHears_1 (by decide) ?_
  obtain ⟨u1, M2, hcu1, h⟩ := bE_a h
  refine tb_cVV hZk hx hb hml hown hts hK hZ hW hS [.int (11 : Int32)] (mX12_ran (l := l) hZk (11 : Int32) M0 u1 M2 hcu1) pmX12_ran tw1714 (Wd.recv hK hW (t := 12) (by decide) cz12 (C := RX12) (T := TX12) (N := 58) rfl) ⟨Nat.le_of_ble_eq_true rfl, Nat.le_of_ble_eq_true rfl⟩ rfl hl.1 (Nat.le_of_ble_eq_true rfl) ⟨Nat.le_refl _, Nat.le_refl _⟩ rfl dX12_plainHears_3 (fun H locs hW hS => ?_)
  refine lv_iload_n hx hb dX12_plainHears_6 rfl (lv_at hl 2 rfl) ?_
  refine lv_iload_n hx hb dX12_plainHears_7 rfl (lv_at hl 1 rfl) ?_
  refine lv_ixor hx hb dX12_plainHears_8 ?_
  exact tb_iretE h hx hb hr hS hW hlk dX12_plainHears_9
def fX12_heldHears (x1 : Int32) (x2 : Int32) (M0 : Mem) : Option (Int32 × Mem) :=
  bE (fX12_ran (60 : Int32) M0) fun u1 M2 => bE (fX12_plainHears x1 x2 M2) fun b3 M4 => bE (fX12_stands x1 (2 : Int32) M4) fun b5 M6 => some (b3 - b5, M6)
set_option maxHeartbeats 4000000 in
set_option maxRecDepth 100000 in
theorem mX12_heldHears {l : Launch} {D : va_G} {cy : Nat → ClassId} {A : Nat → Prop} {Z : State → Heap → Prop} {ad : Nat → Nat → Nat} (hZk : ZOK A Z) (x1 : Int32) (x2 : Int32) (M0 : Mem) (r : Int32) (M' : Mem) (h : fX12_heldHears x1 x2 M0 = some (r, M')) : Met l yX12_heldHears (wt yX12_heldHears cX12_heldHears 4 (some .int)) (rm 3 65) (CPre D cy A Z cnM ad M0 [.ref (ad 12 0), .int x1, .int x2]) (QI D cy A cnM ad r M') 0 0 A := by
  refine tb_start [.ref (ad 12 0), .int x1, .int x2] [(0, .ref (ad 12 0)), (1, .int x1), (2, .int x2)] RX12 rfl (by decide +kernel) (Nat.le_of_ble_eq_true rfl) rfl (fun p e s m args below meth c hx hb hr hml hown hts hlk hW hK hZ ls hl => ?_)
  have hS : va_S A s.heap s.heap [] := va_S.rf
  unfold fX12_heldHears at h
  refine lv_aload_n hx hb dX12_heldHears_0 rfl (lv_at hl 0 rfl) ?_
  refine lv_bipush (v := (60 : Int32)) hx hb dX12_heldHears_1 (by decide) ?_
  obtain ⟨u1, M2, hcu1, h⟩ := bE_a h
  refine tb_cVV hZk hx hb hml hown hts hK hZ hW hS [.int (60 : Int32)] (mX12_ran (l := l) hZk (60 : Int32) M0 u1 M2 hcu1) pmX12_ran tw1714 (Wd.recv hK hW (t := 12) (by decide) cz12 (C := RX12) (T := TX12) (N := 58) rfl) ⟨Nat.le_of_ble_eq_true rfl, Nat.le_of_ble_eq_true rfl⟩ rfl hl.1 (Nat.le_of_ble_eq_true rfl) ⟨Nat.le_refl _, Nat.le_refl _⟩ rfl dX12_heldHears_3 (fun H locs hW hS => ?_)
  refine lv_aload_n hx hb dX12_heldHears_6 rfl (lv_at hl 0 rfl) ?_
  refine lv_iload_n hx hb dX12_heldHears_7 rfl (lv_at hl 1 rfl) ?_
  refine lv_iload_n hx hb dX12_heldHears_8 rfl (lv_at hl 2 rfl) ?_
  obtain ⟨b3, M4, hcb3, h⟩ := bE_a h
  refine tb_cVI hZk hx hb hml hown hts hK hZ hW hS [.int x1, .int x2] (mX12_plainHears (l := l) hZk x1 x2 M2 b3 M4 hcb3) pmX12_plainHears tw1734 (Wd.recv hK hW (t := 12) (by decide) cz12 (C := RX12) (T := TX12) (N := 58) rfl) ⟨Nat.le_of_ble_eq_true rfl, Nat.le_of_ble_eq_true rfl⟩ rfl hl.1 (Nat.le_of_ble_eq_true rfl) ⟨Nat.le_refl _, Nat.le_refl _⟩ rfl dX12_heldHears_9 (fun H locs hW hS => ?_)
  refine lv_istore_n (lv' := [(3, .int b3), (0, .ref (ad 12 0)), (1, .int x1), (2, .int x2)]) hx hb dX12_heldHears_12 rfl hl (by decide) rfl (fun ls hl => ?_)
  refine lv_iload_n hx hb dX12_heldHears_13 rfl (lv_at hl 0 rfl) ?_
  refine lv_aload_n hx hb dX12_heldHears_14 rfl (lv_at hl 1 rfl) ?_
  refine lv_iload_n hx hb dX12_heldHears_15 rfl (lv_at hl 2 rfl) ?_
  refine lv_iconst (v := (2 : Int32)) hx hb dX12_heldHears_16 (by decide) ?_
  obtain ⟨b5, M6, hcb5, h⟩ := bE_a h
  refine tb_cVI hZk hx hb hml hown hts hK hZ hW hS [.int x1, .int (2 : Int32)] (mX12_stands (l := l) hZk x1 (2 : Int32) M4 b5 M6 hcb5) pmX12_stands tw1707 (Wd.recv hK hW (t := 12) (by decide) cz12 (C := RX12) (T := TX12) (N := 58) rfl) ⟨Nat.le_of_ble_eq_true rfl, Nat.le_of_ble_eq_true rfl⟩ rfl hl.1 (Nat.le_of_ble_eq_true rfl) ⟨Nat.le_refl _, Nat.le_refl _⟩ rfl dX12_heldHears_17 (fun H locs hW hS => ?_)
  refine lv_isub hx hb dX12_heldHears_20 ?_
  exact tb_iretE h hx hb hr hS hW hlk dX12_heldHears_21
def fX12_heardBy (x1 : Int32) (x2 : Int32) (M0 : Mem) : Option (Int32 × Mem) :=
  if (mgI M0 1253 0 0) = (3 : Int32) then (bE (fX12_ran (40 : Int32) M0) fun u12 M13 => bE (fX12_plainHears x1 x2 M13) fun b14 M15 => some (b14 * (3 : Int32), M15)) else (if (mgI M0 1253 0 0) = (6 : Int32) then (bE (fX12_ran (71 : Int32) M0) fun u8 M9 => bE (fX12_heldHears x1 x2 M9) fun b10 M11 => some (b10 * (2 : Int32), M11)) else (if (mgI M0 1253 0 0) = (5 : Int32) then (bE (fX12_heldHears x1 x2 M0) fun b6 M7 => some (b6, M7)) else (bE (fX12_plainHears x1 x2 M0) fun b4 M5 => some (b4, M5))))
set_option maxHeartbeats 4000000 in
set_option maxRecDepth 100000 in
theorem mX12_heardBy {l : Launch} {D : va_G} {cy : Nat → ClassId} {A : Nat → Prop} {Z : State → Heap → Prop} {ad : Nat → Nat → Nat} (hZk : ZOK A Z) (x1 : Int32) (x2 : Int32) (M0 : Mem) (r : Int32) (M' : Mem) (h : fX12_heardBy x1 x2 M0 = some (r, M')) : Met l yX12_heardBy (wt yX12_heardBy cX12_heardBy 3 (some .int)) (rm 4 88) (CPre D cy A Z cnM ad M0 [.ref (ad 12 0), .int x1, .int x2]) (QI D cy A cnM ad r M') 0 0 A := by
  refine tb_start [.ref (ad 12 0), .int x1, .int x2] [(0, .ref (ad 12 0)), (1, .int x1), (2, .int x2)] RX12 rfl (by decide +kernel) (Nat.le_of_ble_eq_true rfl) rfl (fun p e s m args below meth c hx hb hr hml hown hts hlk hW hK hZ ls hl => ?_)
  have hS : va_S A s.heap s.heap [] := va_S.rf
  unfold fX12_heardBy at h
  refine lv_aload_n hx hb dX12_heardBy_0 rfl (lv_at hl 0 rfl) ?_
  refine gtX12_353 hx hb hts hown hK hW cz12 dX12_heardBy_1 ?_
  refine lv_iconst (v := (3 : Int32)) hx hb dX12_heardBy_4 (by decide) ?_
  refine lv_icmp_ne (tgt := 23) hx hb dX12_heardBy_5 (by decide) (fun c1 => ?_) (fun c1 => ?_)
  · have h := sh_f c1 h
    refine lv_aload_n hx hb dX12_heardBy_23 rfl (lv_at hl 0 rfl) ?_
    refine gtX12_353 hx hb hts hown hK hW cz12 dX12_heardBy_24 ?_
    refine lv_bipush (v := (6 : Int32)) hx hb dX12_heardBy_27 (by decide) ?_
    refine lv_icmp_ne (tgt := 47) hx hb dX12_heardBy_29 (by decide) (fun c2 => ?_) (fun c2 => ?_)
    · have h := sh_f c2 h
      refine lv_aload_n hx hb dX12_heardBy_47 rfl (lv_at hl 0 rfl) ?_
      refine gtX12_353 hx hb hts hown hK hW cz12 dX12_heardBy_48 ?_
      refine lv_iconst (v := (5 : Int32)) hx hb dX12_heardBy_51 (by decide) ?_
      refine lv_icmp_ne (tgt := 64) hx hb dX12_heardBy_52 (by decide) (fun c3 => ?_) (fun c3 => ?_)
      · have h := sh_f c3 h
        refine lv_aload_n hx hb dX12_heardBy_64 rfl (lv_at hl 0 rfl) ?_
        refine lv_iload_n hx hb dX12_heardBy_65 rfl (lv_at hl 1 rfl) ?_
        refine lv_iload_n hx hb dX12_heardBy_66 rfl (lv_at hl 2 rfl) ?_
        obtain ⟨b4, M5, hcb4, h⟩ := bE_a h
        refine tb_cVI hZk hx hb hml hown hts hK hZ hW hS [.int x1, .int x2] (mX12_plainHears (l := l) hZk x1 x2 M0 b4 M5 hcb4) pmX12_plainHears tw1734 (Wd.recv hK hW (t := 12) (by decide) cz12 (C := RX12) (T := TX12) (N := 58) rfl) ⟨Nat.le_of_ble_eq_true rfl, Nat.le_of_ble_eq_true rfl⟩ rfl hl.1 (Nat.le_of_ble_eq_true rfl) ⟨Nat.le_refl _, Nat.le_refl _⟩ rfl dX12_heardBy_67 (fun H locs hW hS => ?_)
        exact tb_iretE h hx hb hr hS hW hlk dX12_heardBy_70
      · have h := sh_t c3 h
        refine lv_aload_n hx hb dX12_heardBy_55 rfl (lv_at hl 0 rfl) ?_
        refine lv_iload_n hx hb dX12_heardBy_56 rfl (lv_at hl 1 rfl) ?_
        refine lv_iload_n hx hb dX12_heardBy_57 rfl (lv_at hl 2 rfl) ?_
        obtain ⟨b6, M7, hcb6, h⟩ := bE_a h
        refine tb_cVI hZk hx hb hml hown hts hK hZ hW hS [.int x1, .int x2] (mX12_heldHears (l := l) hZk x1 x2 M0 b6 M7 hcb6) pmX12_heldHears tw1738 (Wd.recv hK hW (t := 12) (by decide) cz12 (C := RX12) (T := TX12) (N := 58) rfl) ⟨Nat.le_of_ble_eq_true rfl, Nat.le_of_ble_eq_true rfl⟩ rfl hl.1 (Nat.le_of_ble_eq_true rfl) ⟨Nat.le_refl _, Nat.le_refl _⟩ rfl dX12_heardBy_58 (fun H locs hW hS => ?_)
        refine lv_goto (tgt := 70) hx hb dX12_heardBy_61 (by decide) ?_
        exact tb_iretE h hx hb hr hS hW hlk dX12_heardBy_70
    · have h := sh_t c2 h
      refine lv_aload_n hx hb dX12_heardBy_32 rfl (lv_at hl 0 rfl) ?_
      refine lv_bipush (v := (71 : Int32)) hx hb dX12_heardBy_33 (by decide) ?_
      obtain ⟨u8, M9, hcu8, h⟩ := bE_a h
      refine tb_cVV hZk hx hb hml hown hts hK hZ hW hS [.int (71 : Int32)] (mX12_ran (l := l) hZk (71 : Int32) M0 u8 M9 hcu8) pmX12_ran tw1714 (Wd.recv hK hW (t := 12) (by decide) cz12 (C := RX12) (T := TX12) (N := 58) rfl) ⟨Nat.le_of_ble_eq_true rfl, Nat.le_of_ble_eq_true rfl⟩ rfl hl.1 (Nat.le_of_ble_eq_true rfl) ⟨Nat.le_refl _, Nat.le_refl _⟩ rfl dX12_heardBy_35 (fun H locs hW hS => ?_)
      refine lv_aload_n hx hb dX12_heardBy_38 rfl (lv_at hl 0 rfl) ?_
      refine lv_iload_n hx hb dX12_heardBy_39 rfl (lv_at hl 1 rfl) ?_
      refine lv_iload_n hx hb dX12_heardBy_40 rfl (lv_at hl 2 rfl) ?_
      obtain ⟨b10, M11, hcb10, h⟩ := bE_a h
      refine tb_cVI hZk hx hb hml hown hts hK hZ hW hS [.int x1, .int x2] (mX12_heldHears (l := l) hZk x1 x2 M9 b10 M11 hcb10) pmX12_heldHears tw1738 (Wd.recv hK hW (t := 12) (by decide) cz12 (C := RX12) (T := TX12) (N := 58) rfl) ⟨Nat.le_of_ble_eq_true rfl, Nat.le_of_ble_eq_true rfl⟩ rfl hl.1 (Nat.le_of_ble_eq_true rfl) ⟨Nat.le_refl _, Nat.le_refl _⟩ rfl dX12_heardBy_41 (fun H locs hW hS => ?_)
      refine lv_iconst (v := (2 : Int32)) hx hb dX12_heardBy_44 (by decide) ?_
      refine lv_imul hx hb dX12_heardBy_45 ?_
      exact tb_iretE h hx hb hr hS hW hlk dX12_heardBy_46
  · have h := sh_t c1 h
    refine lv_aload_n hx hb dX12_heardBy_8 rfl (lv_at hl 0 rfl) ?_
    refine lv_bipush (v := (40 : Int32)) hx hb dX12_heardBy_9 (by decide) ?_
    obtain ⟨u12, M13, hcu12, h⟩ := bE_a h
    refine tb_cVV hZk hx hb hml hown hts hK hZ hW hS [.int (40 : Int32)] (mX12_ran (l := l) hZk (40 : Int32) M0 u12 M13 hcu12) pmX12_ran tw1714 (Wd.recv hK hW (t := 12) (by decide) cz12 (C := RX12) (T := TX12) (N := 58) rfl) ⟨Nat.le_of_ble_eq_true rfl, Nat.le_of_ble_eq_true rfl⟩ rfl hl.1 (Nat.le_of_ble_eq_true rfl) ⟨Nat.le_refl _, Nat.le_refl _⟩ rfl dX12_heardBy_11 (fun H locs hW hS => ?_)
    refine lv_aload_n hx hb dX12_heardBy_14 rfl (lv_at hl 0 rfl) ?_
    refine lv_iload_n hx hb dX12_heardBy_15 rfl (lv_at hl 1 rfl) ?_
    refine lv_iload_n hx hb dX12_heardBy_16 rfl (lv_at hl 2 rfl) ?_
    obtain ⟨b14, M15, hcb14, h⟩ := bE_a h
    refine tb_cVI hZk hx hb hml hown hts hK hZ hW hS [.int x1, .int x2] (mX12_plainHears (l := l) hZk x1 x2 M13 b14 M15 hcb14) pmX12_plainHears tw1734 (Wd.recv hK hW (t := 12) (by decide) cz12 (C := RX12) (T := TX12) (N := 58) rfl) ⟨Nat.le_of_ble_eq_true rfl, Nat.le_of_ble_eq_true rfl⟩ rfl hl.1 (Nat.le_of_ble_eq_true rfl) ⟨Nat.le_refl _, Nat.le_refl _⟩ rfl dX12_heardBy_17 (fun H locs hW hS => ?_)
    refine lv_iconst (v := (3 : Int32)) hx hb dX12_heardBy_20 (by decide) ?_
    refine lv_imul hx hb dX12_heardBy_21 ?_
    exact tb_iretE h hx hb hr hS hW hlk dX12_heardBy_22
def fX12_plainTells (x1 : Int32) (x2 : Int32) (M0 : Mem) : Option (Int32 × Mem) :=
  bE (fX12_ran (2 : Int32) M0) fun u1 M2 => bE (fX12_fallen x1 x2 M2) fun b3 M4 => bE (fX12_heardBy x1 (1 : Int32) M4) fun b5 M6 => some (b3 - b5, M6)
set_option maxHeartbeats 4000000 in
set_option maxRecDepth 100000 in
theorem mX12_plainTells {l : Launch} {D : va_G} {cy : Nat → ClassId} {A : Nat → Prop} {Z : State → Heap → Prop} {ad : Nat → Nat → Nat} (hZk : ZOK A Z) (x1 : Int32) (x2 : Int32) (M0 : Mem) (r : Int32) (M' : Mem) (h : fX12_plainTells x1 x2 M0 = some (r, M')) : Met l yX12_plainTells (wt yX12_plainTells cX12_plainTells 4 (some .int)) (rm 5 110) (CPre D cy A Z cnM ad M0 [.ref (ad 12 0), .int x1, .int x2]) (QI D cy A cnM ad r M') 0 0 A := by
  refine tb_start [.ref (ad 12 0), .int x1, .int x2] [(0, .ref (ad 12 0)), (1, .int x1), (2, .int x2)] RX12 rfl (by decide +kernel) (Nat.le_of_ble_eq_true rfl) rfl (fun p e s m args below meth c hx hb hr hml hown hts hlk hW hK hZ ls hl => ?_)
  have hS : va_S A s.heap s.heap [] := va_S.rf
  unfold fX12_plainTells at h
  refine lv_aload_n hx hb dX12_plainTells_0 rfl (lv_at hl 0 rfl) ?_
  refine lv_iconst (v := (2 : Int32)) hx hb dX12_plainTells_1 (by decide) ?_
  obtain ⟨u1, M2, hcu1, h⟩ := bE_a h
  refine tb_cVV hZk hx hb hml hown hts hK hZ hW hS [.int (2 : Int32)] (mX12_ran (l := l) hZk (2 : Int32) M0 u1 M2 hcu1) pmX12_ran tw1714 (Wd.recv hK hW (t := 12) (by decide) cz12 (C := RX12) (T := TX12) (N := 58) rfl) ⟨Nat.le_of_ble_eq_true rfl, Nat.le_of_ble_eq_true rfl⟩ rfl hl.1 (Nat.le_of_ble_eq_true rfl) ⟨Nat.le_refl _, Nat.le_refl _⟩ rfl dX12_plainTells_2 (fun H locs hW hS => ?_)
  refine lv_aload_n hx hb dX12_plainTells_5 rfl (lv_at hl 0 rfl) ?_
  refine lv_iload_n hx hb dX12_plainTells_6 rfl (lv_at hl 1 rfl) ?_
  refine lv_iload_n hx hb dX12_plainTells_7 rfl (lv_at hl 2 rfl) ?_
  obtain ⟨b3, M4, hcb3, h⟩ := bE_a h
  refine tb_cVI hZk hx hb hml hown hts hK hZ hW hS [.int x1, .int x2] (mX12_fallen (l := l) hZk x1 x2 M2 b3 M4 hcb3) pmX12_fallen tw1722 (Wd.recv hK hW (t := 12) (by decide) cz12 (C := RX12) (T := TX12) (N := 58) rfl) ⟨Nat.le_of_ble_eq_true rfl, Nat.le_of_ble_eq_true rfl⟩ rfl hl.1 (Nat.le_of_ble_eq_true rfl) ⟨Nat.le_refl _, Nat.le_refl _⟩ rfl dX12_plainTells_8 (fun H locs hW hS => ?_)
  refine lv_istore_n (lv' := [(3, .int b3), (0, .ref (ad 12 0)), (1, .int x1), (2, .int x2)]) hx hb dX12_plainTells_11 rfl hl (by decide) rfl (fun ls hl => ?_)
  refine lv_iload_n hx hb dX12_plainTells_12 rfl (lv_at hl 0 rfl) ?_
  refine lv_aload_n hx hb dX12_plainTells_13 rfl (lv_at hl 1 rfl) ?_
  refine lv_iload_n hx hb dX12_plainTells_14 rfl (lv_at hl 2 rfl) ?_
  refine lv_iconst (v := (1 : Int32)) hx hb dX12_plainTells_15 (by decide) ?_
  obtain ⟨b5, M6, hcb5, h⟩ := bE_a h
  refine tb_cVI hZk hx hb hml hown hts hK hZ hW hS [.int x1, .int (1 : Int32)] (mX12_heardBy (l := l) hZk x1 (1 : Int32) M4 b5 M6 hcb5) pmX12_heardBy tw1730 (Wd.recv hK hW (t := 12) (by decide) cz12 (C := RX12) (T := TX12) (N := 58) rfl) ⟨Nat.le_of_ble_eq_true rfl, Nat.le_of_ble_eq_true rfl⟩ rfl hl.1 (Nat.le_of_ble_eq_true rfl) ⟨Nat.le_refl _, Nat.le_refl _⟩ rfl dX12_plainTells_16 (fun H locs hW hS => ?_)
  refine lv_isub hx hb dX12_plainTells_19 ?_
  exact tb_iretE h hx hb hr hS hW hlk dX12_plainTells_20
def fX12_tells (x1 : Int32) (x2 : Int32) (M0 : Mem) : Option (Int32 × Mem) :=
  if (mgI M0 1253 0 0) = (3 : Int32) then (bE (fX12_ran (41 : Int32) M0) fun u4 M5 => bE (fX12_plainTells x1 x2 M5) fun b6 M7 => some (b6 ^^^ (5 : Int32), M7)) else (bE (fX12_plainTells x1 x2 M0) fun b2 M3 => some (b2, M3))
set_option maxHeartbeats 4000000 in
set_option maxRecDepth 100000 in
theorem mX12_tells {l : Launch} {D : va_G} {cy : Nat → ClassId} {A : Nat → Prop} {Z : State → Heap → Prop} {ad : Nat → Nat → Nat} (hZk : ZOK A Z) (x1 : Int32) (x2 : Int32) (M0 : Mem) (r : Int32) (M' : Mem) (h : fX12_tells x1 x2 M0 = some (r, M')) : Met l yX12_tells (wt yX12_tells cX12_tells 3 (some .int)) (rm 6 133) (CPre D cy A Z cnM ad M0 [.ref (ad 12 0), .int x1, .int x2]) (QI D cy A cnM ad r M') 0 0 A := by
  refine tb_start [.ref (ad 12 0), .int x1, .int x2] [(0, .ref (ad 12 0)), (1, .int x1), (2, .int x2)] RX12 rfl (by decide +kernel) (Nat.le_of_ble_eq_true rfl) rfl (fun p e s m args below meth c hx hb hr hml hown hts hlk hW hK hZ ls hl => ?_)
  have hS : va_S A s.heap s.heap [] := va_S.rf
  unfold fX12_tells at h
  refine lv_aload_n hx hb dX12_tells_0 rfl (lv_at hl 0 rfl) ?_
  refine gtX12_353 hx hb hts hown hK hW cz12 dX12_tells_1 ?_
  refine lv_iconst (v := (3 : Int32)) hx hb dX12_tells_4 (by decide) ?_
  refine lv_icmp_ne (tgt := 23) hx hb dX12_tells_5 (by decide) (fun c1 => ?_) (fun c1 => ?_)
  · have h := sh_f c1 h
    refine lv_aload_n hx hb dX12_tells_23 rfl (lv_at hl 0 rfl) ?_
    refine lv_iload_n hx hb dX12_tells_24 rfl (lv_at hl 1 rfl) ?_
    refine lv_iload_n hx hb dX12_tells_25 rfl (lv_at hl 2 rfl) ?_
    obtain ⟨b2, M3, hcb2, h⟩ := bE_a h
    refine tb_cVI hZk hx hb hml hown hts hK hZ hW hS [.int x1, .int x2] (mX12_plainTells (l := l) hZk x1 x2 M0 b2 M3 hcb2) pmX12_plainTells tw1746 (Wd.recv hK hW (t := 12) (by decide) cz12 (C := RX12) (T := TX12) (N := 58) rfl) ⟨Nat.le_of_ble_eq_true rfl, Nat.le_of_ble_eq_true rfl⟩ rfl hl.1 (Nat.le_of_ble_eq_true rfl) ⟨Nat.le_refl _, Nat.le_refl _⟩ rfl dX12_tells_26 (fun H locs hW hS => ?_)
    exact tb_iretE h hx hb hr hS hW hlk dX12_tells_29
  · have h := sh_t c1 h
    refine lv_aload_n hx hb dX12_tells_8 rfl (lv_at hl 0 rfl) ?_
    refine lv_bipush (v := (41 : Int32)) hx hb dX12_tells_9 (by decide) ?_
    obtain ⟨u4, M5, hcu4, h⟩ := bE_a h
    refine tb_cVV hZk hx hb hml hown hts hK hZ hW hS [.int (41 : Int32)] (mX12_ran (l := l) hZk (41 : Int32) M0 u4 M5 hcu4) pmX12_ran tw1714 (Wd.recv hK hW (t := 12) (by decide) cz12 (C := RX12) (T := TX12) (N := 58) rfl) ⟨Nat.le_of_ble_eq_true rfl, Nat.le_of_ble_eq_true rfl⟩ rfl hl.1 (Nat.le_of_ble_eq_true rfl) ⟨Nat.le_refl _, Nat.le_refl _⟩ rfl dX12_tells_11 (fun H locs hW hS => ?_)
    refine lv_aload_n hx hb dX12_tells_14 rfl (lv_at hl 0 rfl) ?_
    refine lv_iload_n hx hb dX12_tells_15 rfl (lv_at hl 1 rfl) ?_
    refine lv_iload_n hx hb dX12_tells_16 rfl (lv_at hl 2 rfl) ?_
    obtain ⟨b6, M7, hcb6, h⟩ := bE_a h
    refine tb_cVI hZk hx hb hml hown hts hK hZ hW hS [.int x1, .int x2] (mX12_plainTells (l := l) hZk x1 x2 M5 b6 M7 hcb6) pmX12_plainTells tw1746 (Wd.recv hK hW (t := 12) (by decide) cz12 (C := RX12) (T := TX12) (N := 58) rfl) ⟨Nat.le_of_ble_eq_true rfl, Nat.le_of_ble_eq_true rfl⟩ rfl hl.1 (Nat.le_of_ble_eq_true rfl) ⟨Nat.le_refl _, Nat.le_refl _⟩ rfl dX12_tells_17 (fun H locs hW hS => ?_)
    refine lv_iconst (v := (5 : Int32)) hx hb dX12_tells_20 (by decide) ?_
    refine lv_ixor hx hb dX12_tells_21 ?_
    exact tb_iretE h hx hb hr hS hW hlk dX12_tells_22
def fX12_act (x1 : Int32) (x2 : Int32) (x3 : Int32) (M0 : Mem) : Option (Int32 × Mem) :=
  nm (msI M0 1251 0 0 (0 : Int32)) fun M1 => nm (fX12_isStone x1 M1) fun b2 => if b2 = 0 then (some ((0 : Int32), M1)) else (nm (fX12_in x2 (0 : Int32) (3 : Int32)) fun b4 => if b4 = 0 then (some ((0 : Int32), M1)) else (bE (fX12_kindNow x1 M1) fun b6 M7 => nm (msI M7 1253 0 0 b6) fun M8 => if x2 = 0 then (bE (fX12_stands x1 x3 M8) fun b18 M19 => some (b18, M19)) else (if x2 = (1 : Int32) then (bE (fX12_fallen x1 x3 M8) fun b16 M17 => some (b16, M17)) else (if x2 = (2 : Int32) then (bE (fX12_heardBy x1 x3 M8) fun b14 M15 => some (b14, M15)) else (bE (fX12_tells x1 x3 M8) fun b12 M13 => some (b12, M13))))))
set_option maxHeartbeats 4000000 in
set_option maxRecDepth 100000 in
theorem mX12_act {l : Launch} {D : va_G} {cy : Nat → ClassId} {A : Nat → Prop} {Z : State → Heap → Prop} {ad : Nat → Nat → Nat} (hZk : ZOK A Z) (x1 : Int32) (x2 : Int32) (x3 : Int32) (M0 : Mem) (r : Int32) (M' : Mem) (h : fX12_act x1 x2 x3 M0 = some (r, M')) : Met l yX12_act (wt yX12_act cX12_act 4 (some .int)) (rm 7 155) (CPre D cy A Z cnM ad M0 [.ref (ad 12 0), .int x1, .int x2, .int x3]) (QI D cy A cnM ad r M') 0 0 A := by
  refine tb_start [.ref (ad 12 0), .int x1, .int x2, .int x3] [(0, .ref (ad 12 0)), (1, .int x1), (2, .int x2), (3, .int x3)] RX12 rfl (by decide +kernel) (Nat.le_of_ble_eq_true rfl) rfl (fun p e s m args below meth c hx hb hr hml hown hts hlk hW hK hZ ls hl => ?_)
  have hS : va_S A s.heap s.heap [] := va_S.rf
  unfold fX12_act at h
  refine lv_aload_n hx hb dX12_act_0 rfl (lv_at hl 0 rfl) ?_
  refine lv_iconst (v := (0 : Int32)) hx hb dX12_act_1 (by decide) ?_
  refine ptX12_347 hx hb hts hown hK hW hS cz12 dX12_act_2 (fun H locs hW hS => ?_)
  obtain ⟨M1, eM1⟩ : ∃ y, y = msI M0 1251 0 0 (0 : Int32) := ⟨_, rfl⟩
  have h := nm_a eM1 h
  rw [← eM1] at hW
  refine lv_aload_n hx hb dX12_act_5 rfl (lv_at hl 0 rfl) ?_
  refine lv_iload_n hx hb dX12_act_6 rfl (lv_at hl 1 rfl) ?_
  refine tb_cVZ hZk hx hb hml hown hts hK hZ hW hS [.int x1] (mX12_isStone (l := l) hZk x1 M1 (fX12_isStone x1 M1) rfl) pmX12_isStone tw1415 (Wd.recv hK hW (t := 12) (by decide) cz12 (C := RX12) (T := TX12) (N := 58) rfl) ⟨Nat.le_of_ble_eq_true rfl, Nat.le_of_ble_eq_true rfl⟩ rfl hl.1 (Nat.le_of_ble_eq_true rfl) ⟨Nat.le_refl _, Nat.le_refl _⟩ rfl dX12_act_7 (fun H locs hW hS hzz => ?_)
  refine lv_topi (fun b2 eb2 => ?_)
  have h := nm_a eb2 h
  have hzb2 : b2 = 0 ∨ b2 = 1 := by rw [eb2]; exact hzz
  refine lv_if_eq (tgt := 22) hx hb dX12_act_10 (by decide) (fun c3 => ?_) (fun c3 => ?_)
  · have h := sh_t c3 h
    refine lv_iconst (v := (0 : Int32)) hx hb dX12_act_22 (by decide) ?_
    exact tb_iretE h hx hb hr hS hW hlk dX12_act_23
  · have h := sh_f c3 h
    refine lv_iload_n hx hb dX12_act_13 rfl (lv_at hl 2 rfl) ?_
    refine lv_iconst (v := (0 : Int32)) hx hb dX12_act_14 (by decide) ?_
    refine lv_iconst (v := (3 : Int32)) hx hb dX12_act_15 (by decide) ?_
    refine tb_cSZ hZk hx hb hml hown hts hK hZ hW hS [.int x2, .int (0 : Int32), .int (3 : Int32)] (mX12_in (l := l) hZk x2 (0 : Int32) (3 : Int32) M1 (fX12_in x2 (0 : Int32) (3 : Int32)) rfl) pmX12_in tw1401 ⟨Nat.le_of_ble_eq_true rfl, Nat.le_of_ble_eq_true rfl⟩ rfl hl.1 (Nat.le_of_ble_eq_true rfl) ⟨Nat.le_refl _, Nat.le_refl _⟩ rfl dX12_act_16 (fun H locs hW hS hzz => ?_)
    refine lv_topi (fun b4 eb4 => ?_)
    have h := nm_a eb4 h
    have hzb4 : b4 = 0 ∨ b4 = 1 := by rw [eb4]; exact hzz
    refine lv_if_ne (tgt := 24) hx hb dX12_act_19 (by decide) (fun c5 => ?_) (fun c5 => ?_)
    · have h := sh_f c5 h
      refine lv_aload_n hx hb dX12_act_24 rfl (lv_at hl 0 rfl) ?_
      refine lv_aload_n hx hb dX12_act_25 rfl (lv_at hl 0 rfl) ?_
      refine lv_iload_n hx hb dX12_act_26 rfl (lv_at hl 1 rfl) ?_
      obtain ⟨b6, M7, hcb6, h⟩ := bE_a h
      refine tb_cVI hZk hx hb hml hown hts hK hZ hW hS [.int x1] (mX12_kindNow (l := l) hZk x1 M1 b6 M7 hcb6) pmX12_kindNow tw1435 (Wd.recv hK hW (t := 12) (by decide) cz12 (C := RX12) (T := TX12) (N := 58) rfl) ⟨Nat.le_of_ble_eq_true rfl, Nat.le_of_ble_eq_true rfl⟩ rfl hl.1 (Nat.le_of_ble_eq_true rfl) ⟨Nat.le_refl _, Nat.le_refl _⟩ rfl dX12_act_27 (fun H locs hW hS => ?_)
      refine ptX12_353 hx hb hts hown hK hW hS cz12 dX12_act_30 (fun H locs hW hS => ?_)
      obtain ⟨M8, eM8⟩ : ∃ y, y = msI M7 1253 0 0 b6 := ⟨_, rfl⟩
      have h := nm_a eM8 h
      rw [← eM8] at hW
      refine lv_iload_n hx hb dX12_act_33 rfl (lv_at hl 2 rfl) ?_
      refine lv_if_ne (tgt := 46) hx hb dX12_act_34 (by decide) (fun c9 => ?_) (fun c9 => ?_)
      · have h := sh_f c9 h
        refine lv_iload_n hx hb dX12_act_46 rfl (lv_at hl 2 rfl) ?_
        refine lv_iconst (v := (1 : Int32)) hx hb dX12_act_47 (by decide) ?_
        refine lv_icmp_ne (tgt := 60) hx hb dX12_act_48 (by decide) (fun c10 => ?_) (fun c10 => ?_)
        · have h := sh_f c10 h
          refine lv_iload_n hx hb dX12_act_60 rfl (lv_at hl 2 rfl) ?_
          refine lv_iconst (v := (2 : Int32)) hx hb dX12_act_61 (by decide) ?_
          refine lv_icmp_ne (tgt := 74) hx hb dX12_act_62 (by decide) (fun c11 => ?_) (fun c11 => ?_)
          · have h := sh_f c11 h
            refine lv_aload_n hx hb dX12_act_74 rfl (lv_at hl 0 rfl) ?_
            refine lv_iload_n hx hb dX12_act_75 rfl (lv_at hl 1 rfl) ?_
            refine lv_iload_n hx hb dX12_act_76 rfl (lv_at hl 3 rfl) ?_
            obtain ⟨b12, M13, hcb12, h⟩ := bE_a h
            refine tb_cVI hZk hx hb hml hown hts hK hZ hW hS [.int x1, .int x3] (mX12_tells (l := l) hZk x1 x3 M8 b12 M13 hcb12) pmX12_tells tw1742 (Wd.recv hK hW (t := 12) (by decide) cz12 (C := RX12) (T := TX12) (N := 58) rfl) ⟨Nat.le_of_ble_eq_true rfl, Nat.le_of_ble_eq_true rfl⟩ rfl hl.1 (Nat.le_of_ble_eq_true rfl) ⟨Nat.le_refl _, Nat.le_refl _⟩ rfl dX12_act_77 (fun H locs hW hS => ?_)
            exact tb_iretE h hx hb hr hS hW hlk dX12_act_80
          · have h := sh_t c11 h
            refine lv_aload_n hx hb dX12_act_65 rfl (lv_at hl 0 rfl) ?_
            refine lv_iload_n hx hb dX12_act_66 rfl (lv_at hl 1 rfl) ?_
            refine lv_iload_n hx hb dX12_act_67 rfl (lv_at hl 3 rfl) ?_
            obtain ⟨b14, M15, hcb14, h⟩ := bE_a h
            refine tb_cVI hZk hx hb hml hown hts hK hZ hW hS [.int x1, .int x3] (mX12_heardBy (l := l) hZk x1 x3 M8 b14 M15 hcb14) pmX12_heardBy tw1730 (Wd.recv hK hW (t := 12) (by decide) cz12 (C := RX12) (T := TX12) (N := 58) rfl) ⟨Nat.le_of_ble_eq_true rfl, Nat.le_of_ble_eq_true rfl⟩ rfl hl.1 (Nat.le_of_ble_eq_true rfl) ⟨Nat.le_refl _, Nat.le_refl _⟩ rfl dX12_act_68 (fun H locs hW hS => ?_)
            refine lv_goto (tgt := 80) hx hb dX12_act_71 (by decide) ?_
            exact tb_iretE h hx hb hr hS hW hlk dX12_act_80
        · have h := sh_t c10 h
          refine lv_aload_n hx hb dX12_act_51 rfl (lv_at hl 0 rfl) ?_
          refine lv_iload_n hx hb dX12_act_52 rfl (lv_at hl 1 rfl) ?_
          refine lv_iload_n hx hb dX12_act_53 rfl (lv_at hl 3 rfl) ?_
          obtain ⟨b16, M17, hcb16, h⟩ := bE_a h
          refine tb_cVI hZk hx hb hml hown hts hK hZ hW hS [.int x1, .int x3] (mX12_fallen (l := l) hZk x1 x3 M8 b16 M17 hcb16) pmX12_fallen tw1722 (Wd.recv hK hW (t := 12) (by decide) cz12 (C := RX12) (T := TX12) (N := 58) rfl) ⟨Nat.le_of_ble_eq_true rfl, Nat.le_of_ble_eq_true rfl⟩ rfl hl.1 (Nat.le_of_ble_eq_true rfl) ⟨Nat.le_refl _, Nat.le_refl _⟩ rfl dX12_act_54 (fun H locs hW hS => ?_)
          refine lv_goto (tgt := 80) hx hb dX12_act_57 (by decide) ?_
          exact tb_iretE h hx hb hr hS hW hlk dX12_act_80
      · have h := sh_t c9 h
        refine lv_aload_n hx hb dX12_act_37 rfl (lv_at hl 0 rfl) ?_
        refine lv_iload_n hx hb dX12_act_38 rfl (lv_at hl 1 rfl) ?_
        refine lv_iload_n hx hb dX12_act_39 rfl (lv_at hl 3 rfl) ?_
        obtain ⟨b18, M19, hcb18, h⟩ := bE_a h
        refine tb_cVI hZk hx hb hml hown hts hK hZ hW hS [.int x1, .int x3] (mX12_stands (l := l) hZk x1 x3 M8 b18 M19 hcb18) pmX12_stands tw1707 (Wd.recv hK hW (t := 12) (by decide) cz12 (C := RX12) (T := TX12) (N := 58) rfl) ⟨Nat.le_of_ble_eq_true rfl, Nat.le_of_ble_eq_true rfl⟩ rfl hl.1 (Nat.le_of_ble_eq_true rfl) ⟨Nat.le_refl _, Nat.le_refl _⟩ rfl dX12_act_40 (fun H locs hW hS => ?_)
        refine lv_goto (tgt := 80) hx hb dX12_act_43 (by decide) ?_
        exact tb_iretE h hx hb hr hS hW hlk dX12_act_80
    · have h := sh_t c5 h
      refine lv_iconst (v := (0 : Int32)) hx hb dX12_act_22 (by decide) ?_
      exact tb_iretE h hx hb hr hS hW hlk dX12_act_23
def fX12_trace (x1 : Int32) (M0 : Mem) : Option Int32 :=
  if x1 < 0 then (some (-1 : Int32)) else (if (mgI M0 1251 0 0) ≤ x1 then (some (-1 : Int32)) else (if (24 : Int32) ≤ x1 then (some (-1 : Int32)) else (ix x1 24 <| some (mgI M0 8800 0 x1.toNatClampNeg))))
set_option maxHeartbeats 4000000 in
set_option maxRecDepth 100000 in
theorem mX12_trace {l : Launch} {D : va_G} {cy : Nat → ClassId} {A : Nat → Prop} {Z : State → Heap → Prop} {ad : Nat → Nat → Nat} (hZk : ZOK A Z) (x1 : Int32) (M0 : Mem) (r : Int32) (h : fX12_trace x1 M0 = some r) : Met l yX12_trace (wt yX12_trace cX12_trace 2 (some .int)) (rm 0 0) (CPre D cy A Z cnM ad M0 [.ref (ad 12 0), .int x1]) (QI D cy A cnM ad r M0) 0 0 A := by
  refine tb_start [.ref (ad 12 0), .int x1] [(0, .ref (ad 12 0)), (1, .int x1)] RX12 rfl (by decide +kernel) (Nat.le_of_ble_eq_true rfl) rfl (fun p e s m args below meth c hx hb hr hml hown hts hlk hW hK hZ ls hl => ?_)
  have hS : va_S A s.heap s.heap [] := va_S.rf
  unfold fX12_trace at h
  refine lv_iload_n hx hb dX12_trace_0 rfl (lv_at hl 1 rfl) ?_
  refine lv_if_lt (tgt := 27) hx hb dX12_trace_1 (by decide) (fun c1 => ?_) (fun c1 => ?_)
  · have h := sh_t c1 h
    refine lv_iconst (v := (-1 : Int32)) hx hb dX12_trace_27 (by decide) ?_
    exact tb_iretO h hx hb hr hS hW hlk dX12_trace_28
  · have h := sh_f c1 h
    refine lv_iload_n hx hb dX12_trace_4 rfl (lv_at hl 1 rfl) ?_
    refine lv_aload_n hx hb dX12_trace_5 rfl (lv_at hl 0 rfl) ?_
    refine gtX12_347 hx hb hts hown hK hW cz12 dX12_trace_6 ?_
    refine lv_icmp_ge (tgt := 27) hx hb dX12_trace_9 (by decide) (fun c2 => ?_) (fun c2 => ?_)
    · have h := sh_t c2 h
      refine lv_iconst (v := (-1 : Int32)) hx hb dX12_trace_27 (by decide) ?_
      exact tb_iretO h hx hb hr hS hW hlk dX12_trace_28
    · have h := sh_f c2 h
      refine lv_iload_n hx hb dX12_trace_12 rfl (lv_at hl 1 rfl) ?_
      refine lv_bipush (v := (24 : Int32)) hx hb dX12_trace_13 (by decide) ?_
      refine lv_icmp_ge (tgt := 27) hx hb dX12_trace_15 (by decide) (fun c3 => ?_) (fun c3 => ?_)
      · have h := sh_t c3 h
        refine lv_iconst (v := (-1 : Int32)) hx hb dX12_trace_27 (by decide) ?_
        exact tb_iretO h hx hb hr hS hW hlk dX12_trace_28
      · have h := sh_f c3 h
        refine lv_aload_n hx hb dX12_trace_18 rfl (lv_at hl 0 rfl) ?_
        refine gtX12_128 hx hb hts hown hK hW cz12 dX12_trace_19 ?_
        refine lv_iload_n hx hb dX12_trace_22 rfl (lv_at hl 1 rfl) ?_
        obtain ⟨hj, h⟩ := ix_a h
        refine al88 hx hb hK hW cz88 hj dX12_trace_23 ?_
        refine lv_goto (tgt := 28) hx hb dX12_trace_24 (by decide) ?_
        exact tb_iretO h hx hb hr hS hW hlk dX12_trace_28
def fX12_count (x1 : Int32) (M0 : Mem) : Int32 :=
  if x1 = (0 : Int32) then (mgI M0 1202 0 0) else if x1 = (1 : Int32) then (mgI M0 1212 0 0) else if x1 = (2 : Int32) then (mgI M0 1246 0 0) else if x1 = (3 : Int32) then (mgI M0 1201 0 0) else if x1 = (4 : Int32) then (mgI M0 1233 0 0) else if x1 = (5 : Int32) then (mgI M0 1224 0 0) else if x1 = (6 : Int32) then (mgI M0 1251 0 0) else (-1 : Int32)
set_option maxHeartbeats 4000000 in
set_option maxRecDepth 100000 in
theorem mX12_count {l : Launch} {D : va_G} {cy : Nat → ClassId} {A : Nat → Prop} {Z : State → Heap → Prop} {ad : Nat → Nat → Nat} (hZk : ZOK A Z) (x1 : Int32) (M0 : Mem) (r : Int32) (h : fX12_count x1 M0 = r) : Met l yX12_count (wt yX12_count cX12_count 2 (some .int)) (rm 0 0) (CPre D cy A Z cnM ad M0 [.ref (ad 12 0), .int x1]) (QI D cy A cnM ad r M0) 0 0 A := by
  refine tb_start [.ref (ad 12 0), .int x1] [(0, .ref (ad 12 0)), (1, .int x1)] RX12 rfl (by decide +kernel) (Nat.le_of_ble_eq_true rfl) rfl (fun p e s m args below meth c hx hb hr hml hown hts hlk hW hK hZ ls hl => ?_)
  have hS : va_S A s.heap s.heap [] := va_S.rf
  unfold fX12_count at h
  refine lv_iload_n hx hb dX12_count_0 rfl (lv_at hl 1 rfl) ?_
  by_cases c1 : x1 = (0 : Int32)
  · have h := sh_t c1 h
    refine lv_tableIn (off := 43) (tgt := 44) hx hb dX12_count_1 (by rw [c1]; decide) (by rw [c1]; decide) (by rw [c1]; rfl) (by decide) ?_
    refine lv_aload_n hx hb dX12_count_44 rfl (lv_at hl 0 rfl) ?_
    refine gtX12_147 hx hb hts hown hK hW cz12 dX12_count_45 ?_
    exact tb_iretP h hx hb hr hS hW hlk dX12_count_48
  · have h := sh_f c1 h
    by_cases c2 : x1 = (1 : Int32)
    · have h := sh_t c2 h
      refine lv_tableIn (off := 48) (tgt := 49) hx hb dX12_count_1 (by rw [c2]; decide) (by rw [c2]; decide) (by rw [c2]; rfl) (by decide) ?_
      refine lv_aload_n hx hb dX12_count_49 rfl (lv_at hl 0 rfl) ?_
      refine gtX12_154 hx hb hts hown hK hW cz12 dX12_count_50 ?_
      exact tb_iretP h hx hb hr hS hW hlk dX12_count_53
    · have h := sh_f c2 h
      by_cases c3 : x1 = (2 : Int32)
      · have h := sh_t c3 h
        refine lv_tableIn (off := 53) (tgt := 54) hx hb dX12_count_1 (by rw [c3]; decide) (by rw [c3]; decide) (by rw [c3]; rfl) (by decide) ?_
        refine lv_aload_n hx hb dX12_count_54 rfl (lv_at hl 0 rfl) ?_
        refine gtX12_319 hx hb hts hown hK hW cz12 dX12_count_55 ?_
        exact tb_iretP h hx hb hr hS hW hlk dX12_count_58
      · have h := sh_f c3 h
        by_cases c4 : x1 = (3 : Int32)
        · have h := sh_t c4 h
          refine lv_tableIn (off := 58) (tgt := 59) hx hb dX12_count_1 (by rw [c4]; decide) (by rw [c4]; decide) (by rw [c4]; rfl) (by decide) ?_
          refine lv_aload_n hx hb dX12_count_59 rfl (lv_at hl 0 rfl) ?_
          refine gtX12_160 hx hb hts hown hK hW cz12 dX12_count_60 ?_
          exact tb_iretP h hx hb hr hS hW hlk dX12_count_63
        · have h := sh_f c4 h
          by_cases c5 : x1 = (4 : Int32)
          · have h := sh_t c5 h
            refine lv_tableIn (off := 63) (tgt := 64) hx hb dX12_count_1 (by rw [c5]; decide) (by rw [c5]; decide) (by rw [c5]; rfl) (by decide) ?_
            refine lv_aload_n hx hb dX12_count_64 rfl (lv_at hl 0 rfl) ?_
            refine gtX12_256 hx hb hts hown hK hW cz12 dX12_count_65 ?_
            exact tb_iretP h hx hb hr hS hW hlk dX12_count_68
          · have h := sh_f c5 h
            by_cases c6 : x1 = (5 : Int32)
            · have h := sh_t c6 h
              refine lv_tableIn (off := 68) (tgt := 69) hx hb dX12_count_1 (by rw [c6]; decide) (by rw [c6]; decide) (by rw [c6]; rfl) (by decide) ?_
              refine lv_aload_n hx hb dX12_count_69 rfl (lv_at hl 0 rfl) ?_
              refine gtX12_234 hx hb hts hown hK hW cz12 dX12_count_70 ?_
              exact tb_iretP h hx hb hr hS hW hlk dX12_count_73
            · have h := sh_f c6 h
              by_cases c7 : x1 = (6 : Int32)
              · have h := sh_t c7 h
                refine lv_tableIn (off := 73) (tgt := 74) hx hb dX12_count_1 (by rw [c7]; decide) (by rw [c7]; decide) (by rw [c7]; rfl) (by decide) ?_
                refine lv_aload_n hx hb dX12_count_74 rfl (lv_at hl 0 rfl) ?_
                refine gtX12_347 hx hb hts hown hK hW cz12 dX12_count_75 ?_
                exact tb_iretP h hx hb hr hS hW hlk dX12_count_78
              · have h := sh_f c7 h
                refine lv_tableOut (tgt := 79) hx hb dX12_count_1 (sw_out x1 (by decide) (fun z h1 h2 => by
                  rcases (show z = 0 ∨ z = 1 ∨ z = 2 ∨ z = 3 ∨ z = 4 ∨ z = 5 ∨ z = 6 by omega) with rfl | rfl | rfl | rfl | rfl | rfl | rfl <;> first | exact fun e => c1 (Int32.toInt_inj.mp (e.trans (by decide))) | exact fun e => c2 (Int32.toInt_inj.mp (e.trans (by decide))) | exact fun e => c3 (Int32.toInt_inj.mp (e.trans (by decide))) | exact fun e => c4 (Int32.toInt_inj.mp (e.trans (by decide))) | exact fun e => c5 (Int32.toInt_inj.mp (e.trans (by decide))) | exact fun e => c6 (Int32.toInt_inj.mp (e.trans (by decide))) | exact fun e => c7 (Int32.toInt_inj.mp (e.trans (by decide))))) (by decide) ?_
                refine lv_iconst (v := (-1 : Int32)) hx hb dX12_count_79 (by decide) ?_
                exact tb_iretP h hx hb hr hS hW hlk dX12_count_80
def fX12_keep (x1 : Int32) (x2 : Int32) (M0 : Mem) : Option (Int32 × Mem) :=
  nm (fX12_isShelf x1) fun b1 => if b1 = 0 then (some ((-1 : Int32), M0)) else (if x2 = (-1 : Int32) then (ix x1 6 <| nm (msI M0 8900 0 x1.toNatClampNeg x2) fun M4 => some ((1 : Int32), M4)) else (nm (fX12_isStone x2 M0) fun b5 => if b5 = 0 then (some ((-1 : Int32), M0)) else (ix x1 6 <| nm (msI M0 8900 0 x1.toNatClampNeg x2) fun M7 => some ((1 : Int32), M7))))
set_option maxHeartbeats 4000000 in
set_option maxRecDepth 100000 in
theorem mX12_keep {l : Launch} {D : va_G} {cy : Nat → ClassId} {A : Nat → Prop} {Z : State → Heap → Prop} {ad : Nat → Nat → Nat} (hZk : ZOK A Z) (x1 : Int32) (x2 : Int32) (M0 : Mem) (r : Int32) (M' : Mem) (h : fX12_keep x1 x2 M0 = some (r, M')) : Met l yX12_keep (wt yX12_keep cX12_keep 3 (some .int)) (rm 2 43) (CPre D cy A Z cnM ad M0 [.ref (ad 12 0), .int x1, .int x2]) (QI D cy A cnM ad r M') 0 0 A := by
  refine tb_start [.ref (ad 12 0), .int x1, .int x2] [(0, .ref (ad 12 0)), (1, .int x1), (2, .int x2)] RX12 rfl (by decide +kernel) (Nat.le_of_ble_eq_true rfl) rfl (fun p e s m args below meth c hx hb hr hml hown hts hlk hW hK hZ ls hl => ?_)
  have hS : va_S A s.heap s.heap [] := va_S.rf
  unfold fX12_keep at h
  refine lv_iload_n hx hb dX12_keep_0 rfl (lv_at hl 1 rfl) ?_
  refine tb_cSZ hZk hx hb hml hown hts hK hZ hW hS [.int x1] (mX12_isShelf (l := l) hZk x1 M0 (fX12_isShelf x1) rfl) pmX12_isShelf tw1427 ⟨Nat.le_of_ble_eq_true rfl, Nat.le_of_ble_eq_true rfl⟩ rfl hl.1 (Nat.le_of_ble_eq_true rfl) ⟨Nat.le_refl _, Nat.le_refl _⟩ rfl dX12_keep_1 (fun H locs hW hS hzz => ?_)
  refine lv_topi (fun b1 eb1 => ?_)
  have h := nm_a eb1 h
  have hzb1 : b1 = 0 ∨ b1 = 1 := by rw [eb1]; exact hzz
  refine lv_if_eq (tgt := 20) hx hb dX12_keep_4 (by decide) (fun c2 => ?_) (fun c2 => ?_)
  · have h := sh_t c2 h
    refine lv_iconst (v := (-1 : Int32)) hx hb dX12_keep_20 (by decide) ?_
    exact tb_iretE h hx hb hr hS hW hlk dX12_keep_21
  · have h := sh_f c2 h
    refine lv_iload_n hx hb dX12_keep_7 rfl (lv_at hl 2 rfl) ?_
    refine lv_iconst (v := (-1 : Int32)) hx hb dX12_keep_8 (by decide) ?_
    refine lv_icmp_eq (tgt := 22) hx hb dX12_keep_9 (by decide) (fun c3 => ?_) (fun c3 => ?_)
    · have h := sh_t c3 h
      refine lv_aload_n hx hb dX12_keep_22 rfl (lv_at hl 0 rfl) ?_
      refine gtX12_131 hx hb hts hown hK hW cz12 dX12_keep_23 ?_
      refine lv_iload_n hx hb dX12_keep_26 rfl (lv_at hl 1 rfl) ?_
      refine lv_iload_n hx hb dX12_keep_27 rfl (lv_at hl 2 rfl) ?_
      obtain ⟨hj, h⟩ := ix_a h
      refine as89 hx hb hK hW hS cz89 hj dX12_keep_28 (fun H locs hW hS => ?_)
      obtain ⟨M4, eM4⟩ : ∃ y, y = msI M0 8900 0 x1.toNatClampNeg x2 := ⟨_, rfl⟩
      have h := nm_a eM4 h
      rw [← eM4] at hW
      refine lv_iconst (v := (1 : Int32)) hx hb dX12_keep_29 (by decide) ?_
      exact tb_iretE h hx hb hr hS hW hlk dX12_keep_30
    · have h := sh_f c3 h
      refine lv_aload_n hx hb dX12_keep_12 rfl (lv_at hl 0 rfl) ?_
      refine lv_iload_n hx hb dX12_keep_13 rfl (lv_at hl 2 rfl) ?_
      refine tb_cVZ hZk hx hb hml hown hts hK hZ hW hS [.int x2] (mX12_isStone (l := l) hZk x2 M0 (fX12_isStone x2 M0) rfl) pmX12_isStone tw1415 (Wd.recv hK hW (t := 12) (by decide) cz12 (C := RX12) (T := TX12) (N := 58) rfl) ⟨Nat.le_of_ble_eq_true rfl, Nat.le_of_ble_eq_true rfl⟩ rfl hl.1 (Nat.le_of_ble_eq_true rfl) ⟨Nat.le_refl _, Nat.le_refl _⟩ rfl dX12_keep_14 (fun H locs hW hS hzz => ?_)
      refine lv_topi (fun b5 eb5 => ?_)
      have h := nm_a eb5 h
      have hzb5 : b5 = 0 ∨ b5 = 1 := by rw [eb5]; exact hzz
      refine lv_if_ne (tgt := 22) hx hb dX12_keep_17 (by decide) (fun c6 => ?_) (fun c6 => ?_)
      · have h := sh_f c6 h
        refine lv_aload_n hx hb dX12_keep_22 rfl (lv_at hl 0 rfl) ?_
        refine gtX12_131 hx hb hts hown hK hW cz12 dX12_keep_23 ?_
        refine lv_iload_n hx hb dX12_keep_26 rfl (lv_at hl 1 rfl) ?_
        refine lv_iload_n hx hb dX12_keep_27 rfl (lv_at hl 2 rfl) ?_
        obtain ⟨hj, h⟩ := ix_a h
        refine as89 hx hb hK hW hS cz89 hj dX12_keep_28 (fun H locs hW hS => ?_)
        obtain ⟨M7, eM7⟩ : ∃ y, y = msI M0 8900 0 x1.toNatClampNeg x2 := ⟨_, rfl⟩
        have h := nm_a eM7 h
        rw [← eM7] at hW
        refine lv_iconst (v := (1 : Int32)) hx hb dX12_keep_29 (by decide) ?_
        exact tb_iretE h hx hb hr hS hW hlk dX12_keep_30
      · have h := sh_t c6 h
        refine lv_iconst (v := (-1 : Int32)) hx hb dX12_keep_20 (by decide) ?_
        exact tb_iretE h hx hb hr hS hW hlk dX12_keep_21
def fX12_row_b54 (x1 : Int32) (k11 : Int32 → Mem → Option (Int32 × Mem)) (i12 : Int32) (M13 : Mem) : Option (Int32 × Mem) :=
  if (((60 : Int32) * x1) + (60 : Int32)) ≤ i12 then (some ((1 : Int32), M13)) else (ix i12 360 <| nm (msL M13 9100 0 i12.toNatClampNeg (0 : Int64)) fun M15 => nm (i12 + (1 : Int32)) fun v16 => k11 v16 M15)
def fX12_row_l54 (x1 : Int32) : Nat → Int32 → Mem → Option (Int32 × Mem)
  | 0, _, _ => none
  | n + 1, i12, M13 => fX12_row_b54 x1 (fX12_row_l54 x1 n) i12 M13
def fX12_row (x1 : Int32) (x2 : Int32) (x3 : Int32) (M0 : Mem) : Option (Int32 × Mem) :=
  nm (fX12_isShelf x1) fun b1 => if b1 = 0 then (some ((-1 : Int32), M0)) else (nm (fX12_in x2 (0 : Int32) (4 : Int32)) fun b3 => if b3 = 0 then (some ((-1 : Int32), M0)) else (if x3 ≤ (60 : Int32) then (if 0 ≤ x3 then (nm ((-2 : Int32) - x2) fun v7 => ix x1 6 <| nm (msI M0 8900 0 x1.toNatClampNeg v7) fun M8 => ix x1 6 <| nm (msI M8 9000 0 x1.toNatClampNeg x3) fun M9 => nm ((60 : Int32) * x1) fun v10 => fX12_row_l54 x1 FU v10 M9) else (some ((-14 : Int32), M0))) else (some ((-1 : Int32), M0))))
set_option maxHeartbeats 4000000 in
set_option maxRecDepth 100000 in
theorem mX12_row {l : Launch} {D : va_G} {cy : Nat → ClassId} {A : Nat → Prop} {Z : State → Heap → Prop} {ad : Nat → Nat → Nat} (hZk : ZOK A Z) (x1 : Int32) (x2 : Int32) (x3 : Int32) (M0 : Mem) (r : Int32) (M' : Mem) (h : fX12_row x1 x2 x3 M0 = some (r, M')) : Met l yX12_row (wt yX12_row cX12_row 5 (some .int)) (rm 2 42) (CPre D cy A Z cnM ad M0 [.ref (ad 12 0), .int x1, .int x2, .int x3]) (QI D cy A cnM ad r M') 0 0 A := by
  refine tb_start [.ref (ad 12 0), .int x1, .int x2, .int x3] [(0, .ref (ad 12 0)), (1, .int x1), (2, .int x2), (3, .int x3)] RX12 rfl (by decide +kernel) (Nat.le_of_ble_eq_true rfl) rfl (fun p e s m args below meth c hx hb hr hml hown hts hlk hW hK hZ ls hl => ?_)
  have hS : va_S A s.heap s.heap [] := va_S.rf
  unfold fX12_row at h
  refine lv_iload_n hx hb dX12_row_0 rfl (lv_at hl 1 rfl) ?_
  refine tb_cSZ hZk hx hb hml hown hts hK hZ hW hS [.int x1] (mX12_isShelf (l := l) hZk x1 M0 (fX12_isShelf x1) rfl) pmX12_isShelf tw1427 ⟨Nat.le_of_ble_eq_true rfl, Nat.le_of_ble_eq_true rfl⟩ rfl hl.1 (Nat.le_of_ble_eq_true rfl) ⟨Nat.le_refl _, Nat.le_refl _⟩ rfl dX12_row_1 (fun H locs hW hS hzz => ?_)
  refine lv_topi (fun b1 eb1 => ?_)
  have h := nm_a eb1 h
  have hzb1 : b1 = 0 ∨ b1 = 1 := by rw [eb1]; exact hzz
  refine lv_if_eq (tgt := 22) hx hb dX12_row_4 (by decide) (fun c2 => ?_) (fun c2 => ?_)
  · have h := sh_t c2 h
    refine lv_iconst (v := (-1 : Int32)) hx hb dX12_row_22 (by decide) ?_
    exact tb_iretE h hx hb hr hS hW hlk dX12_row_23
  · have h := sh_f c2 h
    refine lv_iload_n hx hb dX12_row_7 rfl (lv_at hl 2 rfl) ?_
    refine lv_iconst (v := (0 : Int32)) hx hb dX12_row_8 (by decide) ?_
    refine lv_iconst (v := (4 : Int32)) hx hb dX12_row_9 (by decide) ?_
    refine tb_cSZ hZk hx hb hml hown hts hK hZ hW hS [.int x2, .int (0 : Int32), .int (4 : Int32)] (mX12_in (l := l) hZk x2 (0 : Int32) (4 : Int32) M0 (fX12_in x2 (0 : Int32) (4 : Int32)) rfl) pmX12_in tw1401 ⟨Nat.le_of_ble_eq_true rfl, Nat.le_of_ble_eq_true rfl⟩ rfl hl.1 (Nat.le_of_ble_eq_true rfl) ⟨Nat.le_refl _, Nat.le_refl _⟩ rfl dX12_row_10 (fun H locs hW hS hzz => ?_)
    refine lv_topi (fun b3 eb3 => ?_)
    have h := nm_a eb3 h
    have hzb3 : b3 = 0 ∨ b3 = 1 := by rw [eb3]; exact hzz
    refine lv_if_eq (tgt := 22) hx hb dX12_row_13 (by decide) (fun c4 => ?_) (fun c4 => ?_)
    · have h := sh_t c4 h
      refine lv_iconst (v := (-1 : Int32)) hx hb dX12_row_22 (by decide) ?_
      exact tb_iretE h hx hb hr hS hW hlk dX12_row_23
    · have h := sh_f c4 h
      refine lv_iload_n hx hb dX12_row_16 rfl (lv_at hl 3 rfl) ?_
      refine lv_bipush (v := (60 : Int32)) hx hb dX12_row_17 (by decide) ?_
      refine lv_icmp_le (tgt := 24) hx hb dX12_row_19 (by decide) (fun c5 => ?_) (fun c5 => ?_)
      · have h := sh_t c5 h
        refine lv_iload_n hx hb dX12_row_24 rfl (lv_at hl 3 rfl) ?_
        refine lv_if_ge (tgt := 31) hx hb dX12_row_25 (by decide) (fun c6 => ?_) (fun c6 => ?_)
        · have h := sh_t c6 h
          refine lv_aload_n hx hb dX12_row_31 rfl (lv_at hl 0 rfl) ?_
          refine gtX12_131 hx hb hts hown hK hW cz12 dX12_row_32 ?_
          refine lv_iload_n hx hb dX12_row_35 rfl (lv_at hl 1 rfl) ?_
          refine lv_bipush (v := (-2 : Int32)) hx hb dX12_row_36 (by decide) ?_
          refine lv_iload_n hx hb dX12_row_38 rfl (lv_at hl 2 rfl) ?_
          refine lv_isub hx hb dX12_row_39 ?_
          refine lv_topi (fun v7 ev7 => ?_)
          have h := nm_a ev7 h
          obtain ⟨hj, h⟩ := ix_a h
          refine as89 hx hb hK hW hS cz89 hj dX12_row_40 (fun H locs hW hS => ?_)
          obtain ⟨M8, eM8⟩ : ∃ y, y = msI M0 8900 0 x1.toNatClampNeg v7 := ⟨_, rfl⟩
          have h := nm_a eM8 h
          rw [← eM8] at hW
          refine lv_aload_n hx hb dX12_row_41 rfl (lv_at hl 0 rfl) ?_
          refine gtX12_134 hx hb hts hown hK hW cz12 dX12_row_42 ?_
          refine lv_iload_n hx hb dX12_row_45 rfl (lv_at hl 1 rfl) ?_
          refine lv_iload_n hx hb dX12_row_46 rfl (lv_at hl 3 rfl) ?_
          obtain ⟨hj, h⟩ := ix_a h
          refine as90 hx hb hK hW hS cz90 hj dX12_row_47 (fun H locs hW hS => ?_)
          obtain ⟨M9, eM9⟩ : ∃ y, y = msI M8 9000 0 x1.toNatClampNeg x3 := ⟨_, rfl⟩
          have h := nm_a eM9 h
          rw [← eM9] at hW
          refine lv_bipush (v := (60 : Int32)) hx hb dX12_row_48 (by decide) ?_
          refine lv_iload_n hx hb dX12_row_50 rfl (lv_at hl 1 rfl) ?_
          refine lv_imul hx hb dX12_row_51 ?_
          refine lv_topi (fun v10 ev10 => ?_)
          have h := nm_a ev10 h
          refine lv_istore (lv' := [(4, .int v10), (0, .ref (ad 12 0)), (1, .int x1), (2, .int x2), (3, .int x3)]) hx hb dX12_row_52 hl (by decide) rfl (fun ls hl => ?_)
          have L11 : ∀ (n11 : Nat) (i12 : Int32) (M13 : Mem) (H : Heap) (locs : List Loc) (ls : Array Slot), Wd D cy A cnM ad M13 H → va_S A s.heap H locs → lv_has ls 5 [(0, .ref (ad 12 0)), (1, .int x1), (4, .int i12)] → fX12_row_l54 x1 n11 i12 M13 = some (r, M') → W p l e (rm 2 42) s m args below meth c H locs 0 0 (MQ below (QI D cy A cnM ad r M') args s 0 0 A) (F0 m 54 ls []) := by
            intro n11
            induction n11 with
            | zero => intro i12 M13 H locs ls hW hS hl h; cases h
            | succ n11 ih11 =>
              intro i12 M13 H locs ls hW hS hl h
              unfold fX12_row_l54 fX12_row_b54 at h
              refine lv_iload hx hb dX12_row_54 (lv_at hl 2 rfl) ?_
              refine lv_bipush (v := (60 : Int32)) hx hb dX12_row_56 (by decide) ?_
              refine lv_iload_n hx hb dX12_row_58 rfl (lv_at hl 1 rfl) ?_
              refine lv_imul hx hb dX12_row_59 ?_
              refine lv_bipush (v := (60 : Int32)) hx hb dX12_row_60 (by decide) ?_
              refine lv_iadd hx hb dX12_row_62 ?_
              refine lv_icmp_ge (tgt := 80) hx hb dX12_row_63 (by decide) (fun c14 => ?_) (fun c14 => ?_)
              · have h := sh_t c14 h
                refine lv_iconst (v := (1 : Int32)) hx hb dX12_row_80 (by decide) ?_
                exact tb_iretE h hx hb hr hS hW hlk dX12_row_81
              · have h := sh_f c14 h
                refine lv_aload_n hx hb dX12_row_66 rfl (lv_at hl 0 rfl) ?_
                refine gtX12_137 hx hb hts hown hK hW cz12 dX12_row_67 ?_
                refine lv_iload hx hb dX12_row_70 (lv_at hl 2 rfl) ?_
                refine lv_lconst (v := (0 : Int64)) hx hb dX12_row_72 (by decide) ?_
                obtain ⟨hj, h⟩ := ix_a h
                refine as91 hx hb hK hW hS cz91 hj dX12_row_73 (fun H locs hW hS => ?_)
                obtain ⟨M15, eM15⟩ : ∃ y, y = msL M13 9100 0 i12.toNatClampNeg (0 : Int64) := ⟨_, rfl⟩
                have h := nm_a eM15 h
                rw [← eM15] at hW
                obtain ⟨v16, ev16⟩ : ∃ y : Int32, y = i12 + (1 : Int32) := ⟨_, rfl⟩
                have h := nm_a ev16 h
                refine lv_iinc (v := v16) (lv' := [(4, .int v16), (0, .ref (ad 12 0)), (1, .int x1)]) hx hb dX12_row_74 hl (k := 2) rfl (by rw [ev16]; rfl) (by decide) rfl (fun ls hl => ?_)
                refine lv_goto (tgt := 54) hx hb dX12_row_77 (by decide) ?_
                exact ih11 v16 M15 _ _ _ hW hS (lv_sub hl [1, 2, 0] rfl) h
          exact L11 FU v10 M9 _ _ _ hW hS (lv_sub hl [1, 2, 0] rfl) h
        · have h := sh_f c6 h
          refine lv_bipush (v := (-14 : Int32)) hx hb dX12_row_28 (by decide) ?_
          exact tb_iretE h hx hb hr hS hW hlk dX12_row_30
      · have h := sh_f c5 h
        refine lv_iconst (v := (-1 : Int32)) hx hb dX12_row_22 (by decide) ?_
        exact tb_iretE h hx hb hr hS hW hlk dX12_row_23
def fX12_whyNoPlace (x1 : Int32) (x2 : Int32) (M0 : Mem) : Option Int32 :=
  nm (fX12_isShelf x1) fun b1 => if b1 = 0 then (some (-1 : Int32)) else (ix x1 6 <| if (mgI M0 8900 0 x1.toNatClampNeg) = (-1 : Int32) then (some (-11 : Int32)) else (ix x1 6 <| if (mgI M0 8900 0 x1.toNatClampNeg) < 0 then (ix x1 6 <| nm (fX12_in x2 (0 : Int32) ((mgI M0 9000 0 x1.toNatClampNeg) - (1 : Int32))) fun b5 => if b5 = 0 then (some (-13 : Int32)) else (some (0 : Int32))) else (some (-12 : Int32))))
set_option maxHeartbeats 4000000 in
set_option maxRecDepth 100000 in
theorem mX12_whyNoPlace {l : Launch} {D : va_G} {cy : Nat → ClassId} {A : Nat → Prop} {Z : State → Heap → Prop} {ad : Nat → Nat → Nat} (hZk : ZOK A Z) (x1 : Int32) (x2 : Int32) (M0 : Mem) (r : Int32) (h : fX12_whyNoPlace x1 x2 M0 = some r) : Met l yX12_whyNoPlace (wt yX12_whyNoPlace cX12_whyNoPlace 3 (some .int)) (rm 2 42) (CPre D cy A Z cnM ad M0 [.ref (ad 12 0), .int x1, .int x2]) (QI D cy A cnM ad r M0) 0 0 A := by
  refine tb_start [.ref (ad 12 0), .int x1, .int x2] [(0, .ref (ad 12 0)), (1, .int x1), (2, .int x2)] RX12 rfl (by decide +kernel) (Nat.le_of_ble_eq_true rfl) rfl (fun p e s m args below meth c hx hb hr hml hown hts hlk hW hK hZ ls hl => ?_)
  have hS : va_S A s.heap s.heap [] := va_S.rf
  unfold fX12_whyNoPlace at h
  refine lv_iload_n hx hb dX12_whyNoPlace_0 rfl (lv_at hl 1 rfl) ?_
  refine tb_cSZ hZk hx hb hml hown hts hK hZ hW hS [.int x1] (mX12_isShelf (l := l) hZk x1 M0 (fX12_isShelf x1) rfl) pmX12_isShelf tw1427 ⟨Nat.le_of_ble_eq_true rfl, Nat.le_of_ble_eq_true rfl⟩ rfl hl.1 (Nat.le_of_ble_eq_true rfl) ⟨Nat.le_refl _, Nat.le_refl _⟩ rfl dX12_whyNoPlace_1 (fun H locs hW hS hzz => ?_)
  refine lv_topi (fun b1 eb1 => ?_)
  have h := nm_a eb1 h
  have hzb1 : b1 = 0 ∨ b1 = 1 := by rw [eb1]; exact hzz
  refine lv_if_ne (tgt := 9) hx hb dX12_whyNoPlace_4 (by decide) (fun c2 => ?_) (fun c2 => ?_)
  · have h := sh_f c2 h
    refine lv_aload_n hx hb dX12_whyNoPlace_9 rfl (lv_at hl 0 rfl) ?_
    refine gtX12_131 hx hb hts hown hK hW cz12 dX12_whyNoPlace_10 ?_
    refine lv_iload_n hx hb dX12_whyNoPlace_13 rfl (lv_at hl 1 rfl) ?_
    obtain ⟨hj, h⟩ := ix_a h
    refine al89 hx hb hK hW cz89 hj dX12_whyNoPlace_14 ?_
    refine lv_iconst (v := (-1 : Int32)) hx hb dX12_whyNoPlace_15 (by decide) ?_
    refine lv_icmp_ne (tgt := 22) hx hb dX12_whyNoPlace_16 (by decide) (fun c3 => ?_) (fun c3 => ?_)
    · have h := sh_f c3 h
      refine lv_aload_n hx hb dX12_whyNoPlace_22 rfl (lv_at hl 0 rfl) ?_
      refine gtX12_131 hx hb hts hown hK hW cz12 dX12_whyNoPlace_23 ?_
      refine lv_iload_n hx hb dX12_whyNoPlace_26 rfl (lv_at hl 1 rfl) ?_
      obtain ⟨hj, h⟩ := ix_a h
      refine al89 hx hb hK hW cz89 hj dX12_whyNoPlace_27 ?_
      refine lv_if_lt (tgt := 34) hx hb dX12_whyNoPlace_28 (by decide) (fun c4 => ?_) (fun c4 => ?_)
      · have h := sh_t c4 h
        refine lv_iload_n hx hb dX12_whyNoPlace_34 rfl (lv_at hl 2 rfl) ?_
        refine lv_iconst (v := (0 : Int32)) hx hb dX12_whyNoPlace_35 (by decide) ?_
        refine lv_aload_n hx hb dX12_whyNoPlace_36 rfl (lv_at hl 0 rfl) ?_
        refine gtX12_134 hx hb hts hown hK hW cz12 dX12_whyNoPlace_37 ?_
        refine lv_iload_n hx hb dX12_whyNoPlace_40 rfl (lv_at hl 1 rfl) ?_
        obtain ⟨hj, h⟩ := ix_a h
        refine al90 hx hb hK hW cz90 hj dX12_whyNoPlace_41 ?_
        refine lv_iconst (v := (1 : Int32)) hx hb dX12_whyNoPlace_42 (by decide) ?_
        refine lv_isub hx hb dX12_whyNoPlace_43 ?_
        refine tb_cSZ hZk hx hb hml hown hts hK hZ hW hS [.int x2, .int (0 : Int32), .int ((mgI M0 9000 0 x1.toNatClampNeg) - (1 : Int32))] (mX12_in (l := l) hZk x2 (0 : Int32) ((mgI M0 9000 0 x1.toNatClampNeg) - (1 : Int32)) M0 (fX12_in x2 (0 : Int32) ((mgI M0 9000 0 x1.toNatClampNeg) - (1 : Int32))) rfl) pmX12_in tw1401 ⟨Nat.le_of_ble_eq_true rfl, Nat.le_of_ble_eq_true rfl⟩ rfl hl.1 (Nat.le_of_ble_eq_true rfl) ⟨Nat.le_refl _, Nat.le_refl _⟩ rfl dX12_whyNoPlace_44 (fun H locs hW hS hzz => ?_)
        refine lv_topi (fun b5 eb5 => ?_)
        have h := nm_a eb5 h
        have hzb5 : b5 = 0 ∨ b5 = 1 := by rw [eb5]; exact hzz
        refine lv_if_eq (tgt := 54) hx hb dX12_whyNoPlace_47 (by decide) (fun c6 => ?_) (fun c6 => ?_)
        · have h := sh_t c6 h
          refine lv_bipush (v := (-13 : Int32)) hx hb dX12_whyNoPlace_54 (by decide) ?_
          exact tb_iretO h hx hb hr hS hW hlk dX12_whyNoPlace_56
        · have h := sh_f c6 h
          refine lv_iconst (v := (0 : Int32)) hx hb dX12_whyNoPlace_50 (by decide) ?_
          refine lv_goto (tgt := 56) hx hb dX12_whyNoPlace_51 (by decide) ?_
          exact tb_iretO h hx hb hr hS hW hlk dX12_whyNoPlace_56
      · have h := sh_f c4 h
        refine lv_bipush (v := (-12 : Int32)) hx hb dX12_whyNoPlace_31 (by decide) ?_
        exact tb_iretO h hx hb hr hS hW hlk dX12_whyNoPlace_33
    · have h := sh_t c3 h
      refine lv_bipush (v := (-11 : Int32)) hx hb dX12_whyNoPlace_19 (by decide) ?_
      exact tb_iretO h hx hb hr hS hW hlk dX12_whyNoPlace_21
  · have h := sh_t c2 h
    refine lv_iconst (v := (-1 : Int32)) hx hb dX12_whyNoPlace_7 (by decide) ?_
    exact tb_iretO h hx hb hr hS hW hlk dX12_whyNoPlace_8
def fX12_put (x1 : Int32) (x2 : Int32) (x3 : Int64) (M0 : Mem) : Option (Int32 × Mem) :=
  bd (fX12_whyNoPlace x1 x2 M0) fun b1 => if 0 ≤ b1 then (ix x1 6 <| nm ((-2 : Int32) - (mgI M0 8900 0 x1.toNatClampNeg)) fun v3 => if v3 = 0 then (nm x3.toInt32.toInt8.toInt32.toInt64 fun v16 => ix (((60 : Int32) * x1) + x2) 360 <| nm (msL M0 9100 0 ((((60 : Int32) * x1) + x2).toNatClampNeg) v16) fun M17 => some ((1 : Int32), M17)) else (if v3 = (1 : Int32) then (nm x3.toInt32.toInt16.toInt32.toInt64 fun v14 => ix (((60 : Int32) * x1) + x2) 360 <| nm (msL M0 9100 0 ((((60 : Int32) * x1) + x2).toNatClampNeg) v14) fun M15 => some ((1 : Int32), M15)) else (if v3 = (2 : Int32) then (nm x3.toInt32.toInt64 fun v12 => ix (((60 : Int32) * x1) + x2) 360 <| nm (msL M0 9100 0 ((((60 : Int32) * x1) + x2).toNatClampNeg) v12) fun M13 => some ((1 : Int32), M13)) else (if v3 = (3 : Int32) then (ix (((60 : Int32) * x1) + x2) 360 <| nm (msL M0 9100 0 ((((60 : Int32) * x1) + x2).toNatClampNeg) x3) fun M11 => some ((1 : Int32), M11)) else (if (lg_cmp x3 (0 : Int64)) = 0 then (ix (((60 : Int32) * x1) + x2) 360 <| nm (msL M0 9100 0 ((((60 : Int32) * x1) + x2).toNatClampNeg) (0 : Int64)) fun M9 => some ((1 : Int32), M9)) else (ix (((60 : Int32) * x1) + x2) 360 <| nm (msL M0 9100 0 ((((60 : Int32) * x1) + x2).toNatClampNeg) (1 : Int64)) fun M10 => some ((1 : Int32), M10))))))) else (some (b1, M0))
set_option maxHeartbeats 4000000 in
set_option maxRecDepth 100000 in
theorem mX12_put {l : Launch} {D : va_G} {cy : Nat → ClassId} {A : Nat → Prop} {Z : State → Heap → Prop} {ad : Nat → Nat → Nat} (hZk : ZOK A Z) (x1 : Int32) (x2 : Int32) (x3 : Int64) (M0 : Mem) (r : Int32) (M' : Mem) (h : fX12_put x1 x2 x3 M0 = some (r, M')) : Met l yX12_put (wt yX12_put cX12_put 7 (some .int)) (rm 3 64) (CPre D cy A Z cnM ad M0 [.ref (ad 12 0), .int x1, .int x2, .long x3]) (QI D cy A cnM ad r M') 0 0 A := by
  refine tb_start [.ref (ad 12 0), .int x1, .int x2, .long x3] [(0, .ref (ad 12 0)), (1, .int x1), (2, .int x2), (3, .long x3)] RX12 rfl (by decide +kernel) (Nat.le_of_ble_eq_true rfl) rfl (fun p e s m args below meth c hx hb hr hml hown hts hlk hW hK hZ ls hl => ?_)
  have hS : va_S A s.heap s.heap [] := va_S.rf
  unfold fX12_put at h
  refine lv_aload_n hx hb dX12_put_0 rfl (lv_at hl 0 rfl) ?_
  refine lv_iload_n hx hb dX12_put_1 rfl (lv_at hl 1 rfl) ?_
  refine lv_iload_n hx hb dX12_put_2 rfl (lv_at hl 2 rfl) ?_
  obtain ⟨b1, hcb1, h⟩ := bd_a h
  refine tb_cVI hZk hx hb hml hown hts hK hZ hW hS [.int x1, .int x2] (mX12_whyNoPlace (l := l) hZk x1 x2 M0 b1 hcb1) pmX12_whyNoPlace tw1770 (Wd.recv hK hW (t := 12) (by decide) cz12 (C := RX12) (T := TX12) (N := 58) rfl) ⟨Nat.le_of_ble_eq_true rfl, Nat.le_of_ble_eq_true rfl⟩ rfl hl.1 (Nat.le_of_ble_eq_true rfl) ⟨Nat.le_refl _, Nat.le_refl _⟩ rfl dX12_put_3 (fun H locs hW hS => ?_)
  refine lv_istore (lv' := [(5, .int b1), (0, .ref (ad 12 0)), (1, .int x1), (2, .int x2), (3, .long x3)]) hx hb dX12_put_6 hl (by decide) rfl (fun ls hl => ?_)
  refine lv_iload hx hb dX12_put_8 (lv_at hl 0 rfl) ?_
  refine lv_if_ge (tgt := 16) hx hb dX12_put_10 (by decide) (fun c2 => ?_) (fun c2 => ?_)
  · have h := sh_t c2 h
    refine lv_bipush (v := (-2 : Int32)) hx hb dX12_put_16 (by decide) ?_
    refine lv_aload_n hx hb dX12_put_18 rfl (lv_at hl 1 rfl) ?_
    refine gtX12_131 hx hb hts hown hK hW cz12 dX12_put_19 ?_
    refine lv_iload_n hx hb dX12_put_22 rfl (lv_at hl 2 rfl) ?_
    obtain ⟨hj, h⟩ := ix_a h
    refine al89 hx hb hK hW cz89 hj dX12_put_23 ?_
    refine lv_isub hx hb dX12_put_24 ?_
    refine lv_topi (fun v3 ev3 => ?_)
    have h := nm_a ev3 h
    refine lv_istore (lv' := [(6, .int v3), (5, .int b1), (0, .ref (ad 12 0)), (1, .int x1), (2, .int x2), (3, .long x3)]) hx hb dX12_put_25 hl (by decide) rfl (fun ls hl => ?_)
    refine lv_aload_n hx hb dX12_put_27 rfl (lv_at hl 2 rfl) ?_
    refine gtX12_137 hx hb hts hown hK hW cz12 dX12_put_28 ?_
    refine lv_bipush (v := (60 : Int32)) hx hb dX12_put_31 (by decide) ?_
    refine lv_iload_n hx hb dX12_put_33 rfl (lv_at hl 3 rfl) ?_
    refine lv_imul hx hb dX12_put_34 ?_
    refine lv_iload_n hx hb dX12_put_35 rfl (lv_at hl 4 rfl) ?_
    refine lv_iadd hx hb dX12_put_36 ?_
    refine lv_iload hx hb dX12_put_37 (lv_at hl 0 rfl) ?_
    refine lv_if_ne (tgt := 49) hx hb dX12_put_39 (by decide) (fun c4 => ?_) (fun c4 => ?_)
    · have h := sh_f c4 h
      refine lv_iload hx hb dX12_put_49 (lv_at hl 0 rfl) ?_
      refine lv_iconst (v := (1 : Int32)) hx hb dX12_put_51 (by decide) ?_
      refine lv_icmp_ne (tgt := 62) hx hb dX12_put_52 (by decide) (fun c5 => ?_) (fun c5 => ?_)
      · have h := sh_f c5 h
        refine lv_iload hx hb dX12_put_62 (lv_at hl 0 rfl) ?_
        refine lv_iconst (v := (2 : Int32)) hx hb dX12_put_64 (by decide) ?_
        refine lv_icmp_ne (tgt := 74) hx hb dX12_put_65 (by decide) (fun c6 => ?_) (fun c6 => ?_)
        · have h := sh_f c6 h
          refine lv_iload hx hb dX12_put_74 (lv_at hl 0 rfl) ?_
          refine lv_iconst (v := (3 : Int32)) hx hb dX12_put_76 (by decide) ?_
          refine lv_icmp_ne (tgt := 84) hx hb dX12_put_77 (by decide) (fun c7 => ?_) (fun c7 => ?_)
          · have h := sh_f c7 h
            refine lv_lload_n hx hb dX12_put_84 rfl (lv_at hl 5 rfl) ?_
            refine lv_lconst (v := (0 : Int64)) hx hb dX12_put_85 (by decide) ?_
            refine W.lcmp hx hb dX12_put_86 ?_
            refine lv_if_eq (tgt := 94) hx hb dX12_put_87 (by decide) (fun c8 => ?_) (fun c8 => ?_)
            · have h := sh_t c8 h
              refine lv_lconst (v := (0 : Int64)) hx hb dX12_put_94 (by decide) ?_
              obtain ⟨hj, h⟩ := ix_a h
              refine as91 hx hb hK hW hS cz91 hj dX12_put_95 (fun H locs hW hS => ?_)
              obtain ⟨M9, eM9⟩ : ∃ y, y = msL M0 9100 0 ((((60 : Int32) * x1) + x2).toNatClampNeg) (0 : Int64) := ⟨_, rfl⟩
              have h := nm_a eM9 h
              rw [← eM9] at hW
              refine lv_iconst (v := (1 : Int32)) hx hb dX12_put_96 (by decide) ?_
              exact tb_iretE h hx hb hr hS hW hlk dX12_put_97
            · have h := sh_f c8 h
              refine lv_lconst (v := (1 : Int64)) hx hb dX12_put_90 (by decide) ?_
              refine lv_goto (tgt := 95) hx hb dX12_put_91 (by decide) ?_
              obtain ⟨hj, h⟩ := ix_a h
              refine as91 hx hb hK hW hS cz91 hj dX12_put_95 (fun H locs hW hS => ?_)
              obtain ⟨M10, eM10⟩ : ∃ y, y = msL M0 9100 0 ((((60 : Int32) * x1) + x2).toNatClampNeg) (1 : Int64) := ⟨_, rfl⟩
              have h := nm_a eM10 h
              rw [← eM10] at hW
              refine lv_iconst (v := (1 : Int32)) hx hb dX12_put_96 (by decide) ?_
              exact tb_iretE h hx hb hr hS hW hlk dX12_put_97
          · have h := sh_t c7 h
            refine lv_lload_n hx hb dX12_put_80 rfl (lv_at hl 5 rfl) ?_
            refine lv_goto (tgt := 95) hx hb dX12_put_81 (by decide) ?_
            obtain ⟨hj, h⟩ := ix_a h
            refine as91 hx hb hK hW hS cz91 hj dX12_put_95 (fun H locs hW hS => ?_)
            obtain ⟨M11, eM11⟩ : ∃ y, y = msL M0 9100 0 ((((60 : Int32) * x1) + x2).toNatClampNeg) x3 := ⟨_, rfl⟩
            have h := nm_a eM11 h
            rw [← eM11] at hW
            refine lv_iconst (v := (1 : Int32)) hx hb dX12_put_96 (by decide) ?_
            exact tb_iretE h hx hb hr hS hW hlk dX12_put_97
        · have h := sh_t c6 h
          refine lv_lload_n hx hb dX12_put_68 rfl (lv_at hl 5 rfl) ?_
          refine lv_l2i hx hb dX12_put_69 rfl ?_
          refine lv_i2l hx hb dX12_put_70 rfl ?_
          refine lv_goto (tgt := 95) hx hb dX12_put_71 (by decide) ?_
          refine lv_topl (fun v12 ev12 => ?_)
          have h := nm_a ev12 h
          obtain ⟨hj, h⟩ := ix_a h
          refine as91 hx hb hK hW hS cz91 hj dX12_put_95 (fun H locs hW hS => ?_)
          obtain ⟨M13, eM13⟩ : ∃ y, y = msL M0 9100 0 ((((60 : Int32) * x1) + x2).toNatClampNeg) v12 := ⟨_, rfl⟩
          have h := nm_a eM13 h
          rw [← eM13] at hW
          refine lv_iconst (v := (1 : Int32)) hx hb dX12_put_96 (by decide) ?_
          exact tb_iretE h hx hb hr hS hW hlk dX12_put_97
      · have h := sh_t c5 h
        refine lv_lload_n hx hb dX12_put_55 rfl (lv_at hl 5 rfl) ?_
        refine lv_l2i hx hb dX12_put_56 rfl ?_
        refine lv_i2s hx hb dX12_put_57 rfl ?_
        refine lv_i2l hx hb dX12_put_58 rfl ?_
        refine lv_goto (tgt := 95) hx hb dX12_put_59 (by decide) ?_
        refine lv_topl (fun v14 ev14 => ?_)
        have h := nm_a ev14 h
        obtain ⟨hj, h⟩ := ix_a h
        refine as91 hx hb hK hW hS cz91 hj dX12_put_95 (fun H locs hW hS => ?_)
        obtain ⟨M15, eM15⟩ : ∃ y, y = msL M0 9100 0 ((((60 : Int32) * x1) + x2).toNatClampNeg) v14 := ⟨_, rfl⟩
        have h := nm_a eM15 h
        rw [← eM15] at hW
        refine lv_iconst (v := (1 : Int32)) hx hb dX12_put_96 (by decide) ?_
        exact tb_iretE h hx hb hr hS hW hlk dX12_put_97
    · have h := sh_t c4 h
      refine lv_lload_n hx hb dX12_put_42 rfl (lv_at hl 5 rfl) ?_
      refine lv_l2i hx hb dX12_put_43 rfl ?_
      refine lv_i2b hx hb dX12_put_44 rfl ?_
      refine lv_i2l hx hb dX12_put_45 rfl ?_
      refine lv_goto (tgt := 95) hx hb dX12_put_46 (by decide) ?_
      refine lv_topl (fun v16 ev16 => ?_)
      have h := nm_a ev16 h
      obtain ⟨hj, h⟩ := ix_a h
      refine as91 hx hb hK hW hS cz91 hj dX12_put_95 (fun H locs hW hS => ?_)
      obtain ⟨M17, eM17⟩ : ∃ y, y = msL M0 9100 0 ((((60 : Int32) * x1) + x2).toNatClampNeg) v16 := ⟨_, rfl⟩
      have h := nm_a eM17 h
      rw [← eM17] at hW
      refine lv_iconst (v := (1 : Int32)) hx hb dX12_put_96 (by decide) ?_
      exact tb_iretE h hx hb hr hS hW hlk dX12_put_97
  · have h := sh_f c2 h
    refine lv_iload hx hb dX12_put_13 (lv_at hl 0 rfl) ?_
    exact tb_iretE h hx hb hr hS hW hlk dX12_put_15
