def fX12_turned_b61 (M11 : Mem) (x2 : Int32) (k12 : Int32 → Int32 → Option (Int32 × Mem)) (i13 : Int32) (i14 : Int32) : Option (Int32 × Mem) :=
  if (mgI M11 1202 0 0) ≤ i14 then (if 0 ≤ x2 then (some ((-1 : Int32), M11)) else (some (i13, M11))) else (ix i14 64 <| if (mgI M11 5000 0 i14.toNatClampNeg) = (3 : Int32) then (ix i14 64 <| bd (fX12_isYes i14 M11) fun b19 => if (mgI M11 7400 0 i14.toNatClampNeg) = b19 then (nm (i14 + (1 : Int32)) fun v24 => k12 i13 v24) else (if i13 = x2 then (some (i14, M11)) else (nm (i13 + (1 : Int32)) fun v22 => nm (i14 + (1 : Int32)) fun v23 => k12 v22 v23))) else (nm (i14 + (1 : Int32)) fun v18 => k12 i13 v18))
def fX12_turned_l61 (M11 : Mem) (x2 : Int32) : Nat → Int32 → Int32 → Option (Int32 × Mem)
  | 0, _, _ => none
  | n + 1, i13, i14 => fX12_turned_b61 M11 x2 (fX12_turned_l61 M11 x2 n) i13 i14
def fX12_turned_b23 (x1 : Int32) (x2 : Int32) (k6 : Int32 → Mem → Option (Int32 × Mem)) (i7 : Int32) (M8 : Mem) : Option (Int32 × Mem) :=
  if (mgI M8 1202 0 0) ≤ i7 then (bE (fX12_findCounts ((1 : Int64) <<< (x1.toInt64 &&& 63)) (0 : Int64) M8) fun u10 M11 => fX12_turned_l61 M11 x2 FU (0 : Int32) (0 : Int32)) else (bd (fX12_isYes i7 M8) fun b25 => ix i7 64 <| nm (msI M8 7400 0 i7.toNatClampNeg (vp_nar .boolean b25)) fun M26 => nm (i7 + (1 : Int32)) fun v27 => k6 v27 M26)
def fX12_turned_l23 (x1 : Int32) (x2 : Int32) : Nat → Int32 → Mem → Option (Int32 × Mem)
  | 0, _, _ => none
  | n + 1, i7, M8 => fX12_turned_b23 x1 x2 (fX12_turned_l23 x1 x2 n) i7 M8
def fX12_turned (x1 : Int32) (x2 : Int32) (M0 : Mem) : Option (Int32 × Mem) :=
  nm (fX12_isStone x1 M0) fun b1 => if b1 = 0 then (some ((-1 : Int32), M0)) else (if (-1 : Int32) ≤ x2 then (bE (fX12_findCounts (0 : Int64) (0 : Int64) M0) fun u4 M5 => fX12_turned_l23 x1 x2 FU (0 : Int32) M5) else (some ((-1 : Int32), M0)))
set_option maxHeartbeats 4000000 in
set_option maxRecDepth 100000 in
theorem mX12_turned {l : Launch} {D : va_G} {cy : Nat → ClassId} {A : Nat → Prop} {Z : State → Heap → Prop} {ad : Nat → Nat → Nat} (hZk : ZOK A Z) (x1 : Int32) (x2 : Int32) (M0 : Mem) (r : Int32) (M' : Mem) (h : fX12_turned x1 x2 M0 = some (r, M')) : Met l yX12_turned (wt yX12_turned cX12_turned 5 (some .int)) (rm 3 80) (CPre D cy A Z cnM ad M0 [.ref (ad 12 0), .int x1, .int x2]) (QI D cy A cnM ad r M') 0 0 A := by
  refine tb_start [.ref (ad 12 0), .int x1, .int x2] [(0, .ref (ad 12 0)), (1, .int x1), (2, .int x2)] RX12 rfl (by decide +kernel) (Nat.le_of_ble_eq_true rfl) rfl (fun p e s m args below meth c hx hb hr hml hown hts hlk hW hK hZ ls hl => ?_)
  have hS : va_S A s.heap s.heap [] := va_S.rf
  unfold fX12_turned at h
  refine lv_aload_n hx hb dX12_turned_0 rfl (lv_at hl 0 rfl) ?_
  refine lv_iload_n hx hb dX12_turned_1 rfl (lv_at hl 1 rfl) ?_
  refine tb_cVZ hZk hx hb hml hown hts hK hZ hW hS [.int x1] (mX12_isStone (l := l) hZk x1 M0 (fX12_isStone x1 M0) rfl) pmX12_isStone tw1415 (Wd.recv hK hW (t := 12) (by decide) cz12 (C := RX12) (T := TX12) (N := 58) rfl) ⟨Nat.le_of_ble_eq_true rfl, Nat.le_of_ble_eq_true rfl⟩ rfl hl.1 (Nat.le_of_ble_eq_true rfl) ⟨Nat.le_refl _, Nat.le_refl _⟩ rfl dX12_turned_2 (fun H locs hW hS hzz => ?_)
  refine lv_topi (fun b1 eb1 => ?_)
  have h := nm_a eb1 h
  have hzb1 : b1 = 0 ∨ b1 = 1 := by rw [eb1]; exact hzz
  refine lv_if_eq (tgt := 13) hx hb dX12_turned_5 (by decide) (fun c2 => ?_) (fun c2 => ?_)
  · have h := sh_t c2 h
    refine lv_iconst (v := (-1 : Int32)) hx hb dX12_turned_13 (by decide) ?_
    exact tb_iretE h hx hb hr hS hW hlk dX12_turned_14
  · have h := sh_f c2 h
    refine lv_iload_n hx hb dX12_turned_8 rfl (lv_at hl 2 rfl) ?_
    refine lv_iconst (v := (-1 : Int32)) hx hb dX12_turned_9 (by decide) ?_
    refine lv_icmp_ge (tgt := 15) hx hb dX12_turned_10 (by decide) (fun c3 => ?_) (fun c3 => ?_)
    · have h := sh_t c3 h
      refine lv_aload_n hx hb dX12_turned_15 rfl (lv_at hl 0 rfl) ?_
      refine lv_lconst (v := (0 : Int64)) hx hb dX12_turned_16 (by decide) ?_
      refine lv_lconst (v := (0 : Int64)) hx hb dX12_turned_17 (by decide) ?_
      obtain ⟨u4, M5, hcu4, h⟩ := bE_a h
      refine tb_cVV hZk hx hb hml hown hts hK hZ hW hS [.long (0 : Int64), .long (0 : Int64)] (mX12_findCounts (l := l) hZk (0 : Int64) (0 : Int64) M0 u4 M5 hcu4) pmX12_findCounts tw1455 (Wd.recv hK hW (t := 12) (by decide) cz12 (C := RX12) (T := TX12) (N := 58) rfl) ⟨Nat.le_of_ble_eq_true rfl, Nat.le_of_ble_eq_true rfl⟩ rfl hl.1 (Nat.le_of_ble_eq_true rfl) ⟨Nat.le_refl _, Nat.le_refl _⟩ rfl dX12_turned_18 (fun H locs hW hS => ?_)
      refine lv_iconst (v := (0 : Int32)) hx hb dX12_turned_21 (by decide) ?_
      refine lv_istore_n (lv' := [(3, .int (0 : Int32)), (0, .ref (ad 12 0)), (1, .int x1), (2, .int x2)]) hx hb dX12_turned_22 rfl hl (by decide) rfl (fun ls hl => ?_)
      have L6 : ∀ (n6 : Nat) (i7 : Int32) (M8 : Mem) (H : Heap) (locs : List Loc) (ls : Array Slot), Wd D cy A cnM ad M8 H → va_S A s.heap H locs → lv_has ls 5 [(0, .ref (ad 12 0)), (1, .int x1), (2, .int x2), (3, .int i7)] → fX12_turned_l23 x1 x2 n6 i7 M8 = some (r, M') → W p l e (rm 3 80) s m args below meth c H locs 0 0 (MQ below (QI D cy A cnM ad r M') args s 0 0 A) (F0 m 23 ls []) := by
        intro n6
        induction n6 with
        | zero => intro i7 M8 H locs ls hW hS hl h; cases h
        | succ n6 ih6 =>
          intro i7 M8 H locs ls hW hS hl h
          unfold fX12_turned_l23 fX12_turned_b23 at h
          refine lv_iload_n hx hb dX12_turned_23 rfl (lv_at hl 3 rfl) ?_
          refine lv_aload_n hx hb dX12_turned_24 rfl (lv_at hl 0 rfl) ?_
          refine gtX12_147 hx hb hts hown hK hW cz12 dX12_turned_25 ?_
          refine lv_icmp_ge (tgt := 48) hx hb dX12_turned_28 (by decide) (fun c9 => ?_) (fun c9 => ?_)
          · have h := sh_t c9 h
            refine lv_aload_n hx hb dX12_turned_48 rfl (lv_at hl 0 rfl) ?_
            refine lv_lconst (v := (1 : Int64)) hx hb dX12_turned_49 (by decide) ?_
            refine lv_iload_n hx hb dX12_turned_50 rfl (lv_at hl 1 rfl) ?_
            refine lv_lshl hx hb dX12_turned_51 rfl ?_
            refine lv_lconst (v := (0 : Int64)) hx hb dX12_turned_52 (by decide) ?_
            obtain ⟨u10, M11, hcu10, h⟩ := bE_a h
            refine tb_cVV hZk hx hb hml hown hts hK hZ hW hS [.long ((1 : Int64) <<< (x1.toInt64 &&& 63)), .long (0 : Int64)] (mX12_findCounts (l := l) hZk ((1 : Int64) <<< (x1.toInt64 &&& 63)) (0 : Int64) M8 u10 M11 hcu10) pmX12_findCounts tw1455 (Wd.recv hK hW (t := 12) (by decide) cz12 (C := RX12) (T := TX12) (N := 58) rfl) ⟨Nat.le_of_ble_eq_true rfl, Nat.le_of_ble_eq_true rfl⟩ rfl hl.1 (Nat.le_of_ble_eq_true rfl) ⟨Nat.le_refl _, Nat.le_refl _⟩ rfl dX12_turned_53 (fun H locs hW hS => ?_)
            refine lv_iconst (v := (0 : Int32)) hx hb dX12_turned_56 (by decide) ?_
            refine lv_istore_n (lv' := [(3, .int (0 : Int32)), (0, .ref (ad 12 0)), (1, .int x1), (2, .int x2)]) hx hb dX12_turned_57 rfl hl (by decide) rfl (fun ls hl => ?_)
            refine lv_iconst (v := (0 : Int32)) hx hb dX12_turned_58 (by decide) ?_
            refine lv_istore (lv' := [(4, .int (0 : Int32)), (3, .int (0 : Int32)), (0, .ref (ad 12 0)), (1, .int x1), (2, .int x2)]) hx hb dX12_turned_59 hl (by decide) rfl (fun ls hl => ?_)
            have L12 : ∀ (n12 : Nat) (i13 : Int32) (i14 : Int32) (H : Heap) (locs : List Loc) (ls : Array Slot), Wd D cy A cnM ad M11 H → va_S A s.heap H locs → lv_has ls 5 [(0, .ref (ad 12 0)), (2, .int x2), (3, .int i13), (4, .int i14)] → fX12_turned_l61 M11 x2 n12 i13 i14 = some (r, M') → W p l e (rm 3 80) s m args below meth c H locs 0 0 (MQ below (QI D cy A cnM ad r M') args s 0 0 A) (F0 m 61 ls []) := by
              intro n12
              induction n12 with
              | zero => intro i13 i14 H locs ls hW hS hl h; cases h
              | succ n12 ih12 =>
                intro i13 i14 H locs ls hW hS hl h
                unfold fX12_turned_l61 fX12_turned_b61 at h
                refine lv_iload hx hb dX12_turned_61 (lv_at hl 3 rfl) ?_
                refine lv_aload_n hx hb dX12_turned_63 rfl (lv_at hl 0 rfl) ?_
                refine gtX12_147 hx hb hts hown hK hW cz12 dX12_turned_64 ?_
                refine lv_icmp_ge (tgt := 117) hx hb dX12_turned_67 (by decide) (fun c15 => ?_) (fun c15 => ?_)
                · have h := sh_t c15 h
                  refine lv_iload_n hx hb dX12_turned_117 rfl (lv_at hl 1 rfl) ?_
                  refine lv_if_ge (tgt := 125) hx hb dX12_turned_118 (by decide) (fun c16 => ?_) (fun c16 => ?_)
                  · have h := sh_t c16 h
                    refine lv_iconst (v := (-1 : Int32)) hx hb dX12_turned_125 (by decide) ?_
                    exact tb_iretE h hx hb hr hS hW hlk dX12_turned_126
                  · have h := sh_f c16 h
                    refine lv_iload_n hx hb dX12_turned_121 rfl (lv_at hl 2 rfl) ?_
                    refine lv_goto (tgt := 126) hx hb dX12_turned_122 (by decide) ?_
                    exact tb_iretE h hx hb hr hS hW hlk dX12_turned_126
                · have h := sh_f c15 h
                  refine lv_aload_n hx hb dX12_turned_70 rfl (lv_at hl 0 rfl) ?_
                  refine gtX12_7 hx hb hts hown hK hW cz12 dX12_turned_71 ?_
                  refine lv_iload hx hb dX12_turned_74 (lv_at hl 3 rfl) ?_
                  obtain ⟨hj, h⟩ := ix_a h
                  refine al50 hx hb hK hW cz50 hj dX12_turned_76 ?_
                  refine lv_iconst (v := (3 : Int32)) hx hb dX12_turned_77 (by decide) ?_
                  refine lv_icmp_ne (tgt := 111) hx hb dX12_turned_78 (by decide) (fun c17 => ?_) (fun c17 => ?_)
                  · have h := sh_f c17 h
                    obtain ⟨v18, ev18⟩ : ∃ y : Int32, y = i14 + (1 : Int32) := ⟨_, rfl⟩
                    have h := nm_a ev18 h
                    refine lv_iinc (v := v18) (lv' := [(4, .int v18), (0, .ref (ad 12 0)), (2, .int x2), (3, .int i13)]) hx hb dX12_turned_111 hl (k := 3) rfl (by rw [ev18]; rfl) (by decide) rfl (fun ls hl => ?_)
                    refine lv_goto (tgt := 61) hx hb dX12_turned_114 (by decide) ?_
                    exact ih12 i13 v18 _ _ _ hW hS (lv_sub hl [1, 2, 3, 0] rfl) h
                  · have h := sh_t c17 h
                    refine lv_aload_n hx hb dX12_turned_81 rfl (lv_at hl 0 rfl) ?_
                    refine gtX12_84 hx hb hts hown hK hW cz12 dX12_turned_82 ?_
                    refine lv_iload hx hb dX12_turned_85 (lv_at hl 3 rfl) ?_
                    obtain ⟨hj, h⟩ := ix_a h
                    refine al74 hx hb hK hW cz74 hj dX12_turned_87 ?_
                    refine lv_aload_n hx hb dX12_turned_88 rfl (lv_at hl 0 rfl) ?_
                    refine lv_iload hx hb dX12_turned_89 (lv_at hl 3 rfl) ?_
                    obtain ⟨b19, hcb19, h⟩ := bd_a h
                    refine tb_cVZ hZk hx hb hml hown hts hK hZ hW hS [.int i14] (mX12_isYes (l := l) hZk i14 M11 b19 hcb19) pmX12_isYes tw1484 (Wd.recv hK hW (t := 12) (by decide) cz12 (C := RX12) (T := TX12) (N := 58) rfl) ⟨Nat.le_of_ble_eq_true rfl, Nat.le_of_ble_eq_true rfl⟩ rfl hl.1 (Nat.le_of_ble_eq_true rfl) ⟨Nat.le_refl _, Nat.le_refl _⟩ rfl dX12_turned_91 (fun H locs hW hS hzz => ?_)
                    have hzb19 := hzz
                    refine lv_icmp_ne (tgt := 100) hx hb dX12_turned_94 (by decide) (fun c20 => ?_) (fun c20 => ?_)
                    · have h := sh_f c20 h
                      refine lv_iload_n hx hb dX12_turned_100 rfl (lv_at hl 2 rfl) ?_
                      refine lv_iload_n hx hb dX12_turned_101 rfl (lv_at hl 1 rfl) ?_
                      refine lv_icmp_ne (tgt := 108) hx hb dX12_turned_102 (by decide) (fun c21 => ?_) (fun c21 => ?_)
                      · have h := sh_f c21 h
                        obtain ⟨v22, ev22⟩ : ∃ y : Int32, y = i13 + (1 : Int32) := ⟨_, rfl⟩
                        have h := nm_a ev22 h
                        refine lv_iinc (v := v22) (lv' := [(3, .int v22), (0, .ref (ad 12 0)), (2, .int x2), (4, .int i14)]) hx hb dX12_turned_108 hl (k := 2) rfl (by rw [ev22]; rfl) (by decide) rfl (fun ls hl => ?_)
                        obtain ⟨v23, ev23⟩ : ∃ y : Int32, y = i14 + (1 : Int32) := ⟨_, rfl⟩
                        have h := nm_a ev23 h
                        refine lv_iinc (v := v23) (lv' := [(4, .int v23), (3, .int v22), (0, .ref (ad 12 0)), (2, .int x2)]) hx hb dX12_turned_111 hl (k := 3) rfl (by rw [ev23]; rfl) (by decide) rfl (fun ls hl => ?_)
                        refine lv_goto (tgt := 61) hx hb dX12_turned_114 (by decide) ?_
                        exact ih12 v22 v23 _ _ _ hW hS (lv_sub hl [2, 3, 1, 0] rfl) h
                      · have h := sh_t c21 h
                        refine lv_iload hx hb dX12_turned_105 (lv_at hl 3 rfl) ?_
                        exact tb_iretE h hx hb hr hS hW hlk dX12_turned_107
                    · have h := sh_t c20 h
                      refine lv_goto (tgt := 111) hx hb dX12_turned_97 (by decide) ?_
                      obtain ⟨v24, ev24⟩ : ∃ y : Int32, y = i14 + (1 : Int32) := ⟨_, rfl⟩
                      have h := nm_a ev24 h
                      refine lv_iinc (v := v24) (lv' := [(4, .int v24), (0, .ref (ad 12 0)), (2, .int x2), (3, .int i13)]) hx hb dX12_turned_111 hl (k := 3) rfl (by rw [ev24]; rfl) (by decide) rfl (fun ls hl => ?_)
                      refine lv_goto (tgt := 61) hx hb dX12_turned_114 (by decide) ?_
                      exact ih12 i13 v24 _ _ _ hW hS (lv_sub hl [1, 2, 3, 0] rfl) h
            exact L12 FU (0 : Int32) (0 : Int32) _ _ _ hW hS (lv_sub hl [2, 4, 1, 0] rfl) h
          · have h := sh_f c9 h
            refine lv_aload_n hx hb dX12_turned_31 rfl (lv_at hl 0 rfl) ?_
            refine gtX12_84 hx hb hts hown hK hW cz12 dX12_turned_32 ?_
            refine lv_iload_n hx hb dX12_turned_35 rfl (lv_at hl 3 rfl) ?_
            refine lv_aload_n hx hb dX12_turned_36 rfl (lv_at hl 0 rfl) ?_
            refine lv_iload_n hx hb dX12_turned_37 rfl (lv_at hl 3 rfl) ?_
            obtain ⟨b25, hcb25, h⟩ := bd_a h
            refine tb_cVZ hZk hx hb hml hown hts hK hZ hW hS [.int i7] (mX12_isYes (l := l) hZk i7 M8 b25 hcb25) pmX12_isYes tw1484 (Wd.recv hK hW (t := 12) (by decide) cz12 (C := RX12) (T := TX12) (N := 58) rfl) ⟨Nat.le_of_ble_eq_true rfl, Nat.le_of_ble_eq_true rfl⟩ rfl hl.1 (Nat.le_of_ble_eq_true rfl) ⟨Nat.le_refl _, Nat.le_refl _⟩ rfl dX12_turned_38 (fun H locs hW hS hzz => ?_)
            have hzb25 := hzz
            obtain ⟨hj, h⟩ := ix_a h
            refine as74 hx hb hK hW hS cz74 hj dX12_turned_41 (fun H locs hW hS => ?_)
            obtain ⟨M26, eM26⟩ : ∃ y, y = msI M8 7400 0 i7.toNatClampNeg (vp_nar .boolean b25) := ⟨_, rfl⟩
            have h := nm_a eM26 h
            rw [← eM26] at hW
            obtain ⟨v27, ev27⟩ : ∃ y : Int32, y = i7 + (1 : Int32) := ⟨_, rfl⟩
            have h := nm_a ev27 h
            refine lv_iinc (v := v27) (lv' := [(3, .int v27), (0, .ref (ad 12 0)), (1, .int x1), (2, .int x2)]) hx hb dX12_turned_42 hl (k := 3) rfl (by rw [ev27]; rfl) (by decide) rfl (fun ls hl => ?_)
            refine lv_goto (tgt := 23) hx hb dX12_turned_45 (by decide) ?_
            exact ih6 v27 M26 _ _ _ hW hS (lv_sub hl [1, 2, 3, 0] rfl) h
      exact L6 FU (0 : Int32) M5 _ _ _ hW hS (lv_sub hl [1, 2, 3, 0] rfl) h
    · have h := sh_f c3 h
      refine lv_iconst (v := (-1 : Int32)) hx hb dX12_turned_13 (by decide) ?_
      exact tb_iretE h hx hb hr hS hW hlk dX12_turned_14
def fX12_stonesOf_b5 (x1 : Int32) (M0 : Mem) (k1 : Int64 → Int32 → Option Int64) (j2 : Int64) (i3 : Int32) : Option Int64 :=
  if (10 : Int32) ≤ i3 then (some j2) else (if ((x1 >>> (i3 &&& 31)) &&& (1 : Int32)) = (1 : Int32) then (ix i3 10 <| nm (j2 ||| ((1 : Int64) <<< ((mgI M0 7500 0 i3.toNatClampNeg).toInt64 &&& 63))) fun v7 => nm (i3 + (1 : Int32)) fun v8 => k1 v7 v8) else (nm (i3 + (1 : Int32)) fun v6 => k1 j2 v6))
def fX12_stonesOf_l5 (x1 : Int32) (M0 : Mem) : Nat → Int64 → Int32 → Option Int64
  | 0, _, _ => none
  | n + 1, j2, i3 => fX12_stonesOf_b5 x1 M0 (fX12_stonesOf_l5 x1 M0 n) j2 i3
def fX12_stonesOf (x1 : Int32) (M0 : Mem) : Option Int64 :=
  fX12_stonesOf_l5 x1 M0 FU (0 : Int64) (0 : Int32)
set_option maxHeartbeats 4000000 in
set_option maxRecDepth 100000 in
theorem mX12_stonesOf {l : Launch} {D : va_G} {cy : Nat → ClassId} {A : Nat → Prop} {Z : State → Heap → Prop} {ad : Nat → Nat → Nat} (hZk : ZOK A Z) (x1 : Int32) (M0 : Mem) (r : Int64) (h : fX12_stonesOf x1 M0 = some r) : Met l yX12_stonesOf (wt yX12_stonesOf cX12_stonesOf 5 (some .long)) (rm 0 0) (CPre D cy A Z cnM ad M0 [.ref (ad 12 0), .int x1]) (QL D cy A cnM ad r M0) 0 0 A := by
  refine tb_start [.ref (ad 12 0), .int x1] [(0, .ref (ad 12 0)), (1, .int x1)] RX12 rfl (by decide +kernel) (Nat.le_of_ble_eq_true rfl) rfl (fun p e s m args below meth c hx hb hr hml hown hts hlk hW hK hZ ls hl => ?_)
  have hS : va_S A s.heap s.heap [] := va_S.rf
  unfold fX12_stonesOf at h
  refine lv_lconst (v := (0 : Int64)) hx hb dX12_stonesOf_0 (by decide) ?_
  refine lv_lstore_n (lv' := [(2, .long (0 : Int64)), (0, .ref (ad 12 0)), (1, .int x1)]) hx hb dX12_stonesOf_1 rfl hl (by decide) rfl (fun ls hl => ?_)
  refine lv_iconst (v := (0 : Int32)) hx hb dX12_stonesOf_2 (by decide) ?_
  refine lv_istore (lv' := [(4, .int (0 : Int32)), (2, .long (0 : Int64)), (0, .ref (ad 12 0)), (1, .int x1)]) hx hb dX12_stonesOf_3 hl (by decide) rfl (fun ls hl => ?_)
  have L1 : ∀ (n1 : Nat) (j2 : Int64) (i3 : Int32) (H : Heap) (locs : List Loc) (ls : Array Slot), Wd D cy A cnM ad M0 H → va_S A s.heap H locs → lv_has ls 5 [(0, .ref (ad 12 0)), (1, .int x1), (2, .long j2), (4, .int i3)] → fX12_stonesOf_l5 x1 M0 n1 j2 i3 = some r → W p l e (rm 0 0) s m args below meth c H locs 0 0 (MQ below (QL D cy A cnM ad r M0) args s 0 0 A) (F0 m 5 ls []) := by
    intro n1
    induction n1 with
    | zero => intro j2 i3 H locs ls hW hS hl h; cases h
    | succ n1 ih1 =>
      intro j2 i3 H locs ls hW hS hl h
      unfold fX12_stonesOf_l5 fX12_stonesOf_b5 at h
      refine lv_iload hx hb dX12_stonesOf_5 (lv_at hl 3 rfl) ?_
      refine lv_bipush (v := (10 : Int32)) hx hb dX12_stonesOf_7 (by decide) ?_
      refine lv_icmp_ge (tgt := 40) hx hb dX12_stonesOf_9 (by decide) (fun c4 => ?_) (fun c4 => ?_)
      · have h := sh_t c4 h
        refine lv_lload_n hx hb dX12_stonesOf_40 rfl (lv_at hl 2 rfl) ?_
        exact tb_lretO h hx hb hr hS hW hlk dX12_stonesOf_41
      · have h := sh_f c4 h
        refine lv_iload_n hx hb dX12_stonesOf_12 rfl (lv_at hl 1 rfl) ?_
        refine lv_iload hx hb dX12_stonesOf_13 (lv_at hl 3 rfl) ?_
        refine lv_ishr hx hb dX12_stonesOf_15 ?_
        refine lv_iconst (v := (1 : Int32)) hx hb dX12_stonesOf_16 (by decide) ?_
        refine lv_iand hx hb dX12_stonesOf_17 ?_
        refine lv_iconst (v := (1 : Int32)) hx hb dX12_stonesOf_18 (by decide) ?_
        refine lv_icmp_ne (tgt := 34) hx hb dX12_stonesOf_19 (by decide) (fun c5 => ?_) (fun c5 => ?_)
        · have h := sh_f c5 h
          obtain ⟨v6, ev6⟩ : ∃ y : Int32, y = i3 + (1 : Int32) := ⟨_, rfl⟩
          have h := nm_a ev6 h
          refine lv_iinc (v := v6) (lv' := [(4, .int v6), (0, .ref (ad 12 0)), (1, .int x1), (2, .long j2)]) hx hb dX12_stonesOf_34 hl (k := 3) rfl (by rw [ev6]; rfl) (by decide) rfl (fun ls hl => ?_)
          refine lv_goto (tgt := 5) hx hb dX12_stonesOf_37 (by decide) ?_
          exact ih1 j2 v6 _ _ _ hW hS (lv_sub hl [1, 2, 3, 0] rfl) h
        · have h := sh_t c5 h
          refine lv_lload_n hx hb dX12_stonesOf_22 rfl (lv_at hl 2 rfl) ?_
          refine lv_lconst (v := (1 : Int64)) hx hb dX12_stonesOf_23 (by decide) ?_
          refine lv_aload_n hx hb dX12_stonesOf_24 rfl (lv_at hl 0 rfl) ?_
          refine gtX12_87 hx hb hts hown hK hW cz12 dX12_stonesOf_25 ?_
          refine lv_iload hx hb dX12_stonesOf_28 (lv_at hl 3 rfl) ?_
          obtain ⟨hj, h⟩ := ix_a h
          refine al75 hx hb hK hW cz75 hj dX12_stonesOf_30 ?_
          refine lv_lshl hx hb dX12_stonesOf_31 rfl ?_
          refine lv_lor hx hb dX12_stonesOf_32 ?_
          refine lv_topl (fun v7 ev7 => ?_)
          have h := nm_a ev7 h
          refine lv_lstore_n (lv' := [(2, .long v7), (0, .ref (ad 12 0)), (1, .int x1), (4, .int i3)]) hx hb dX12_stonesOf_33 rfl hl (by decide) rfl (fun ls hl => ?_)
          obtain ⟨v8, ev8⟩ : ∃ y : Int32, y = i3 + (1 : Int32) := ⟨_, rfl⟩
          have h := nm_a ev8 h
          refine lv_iinc (v := v8) (lv' := [(4, .int v8), (2, .long v7), (0, .ref (ad 12 0)), (1, .int x1)]) hx hb dX12_stonesOf_34 hl (k := 3) rfl (by rw [ev8]; rfl) (by decide) rfl (fun ls hl => ?_)
          refine lv_goto (tgt := 5) hx hb dX12_stonesOf_37 (by decide) ?_
          exact ih1 v7 v8 _ _ _ hW hS (lv_sub hl [2, 3, 1, 0] rfl) h
  exact L1 FU (0 : Int64) (0 : Int32) _ _ _ hW hS (lv_sub hl [2, 3, 1, 0] rfl) h
def fX12_findHung_b84 (i4 : Int32) (x1 : Int32) (b10 : Int32) (k11 : Int32 → Int32 → Mem → Option (Int64 × Mem)) (i12 : Int32) (i13 : Int32) (M14 : Mem) : Option (Int64 × Mem) :=
  if ((1 : Int32) <<< (i4 &&& 31)) ≤ i13 then (if 0 ≤ i12 then (bd (fX12_stonesOf i12 M14) fun g17 => some (g17, M14)) else (some ((-2 : Int64), M14))) else (if i12 < 0 then (bd (fX12_stonesOf i13 M14) fun g19 => bE (fX12_findCounts g19 (0 : Int64) M14) fun u20 M21 => bd (fX12_isYes x1 M21) fun b22 => if b22 = b10 then (nm (i13 + (1 : Int32)) fun v24 => k11 i12 v24 M21) else (nm (i13 + (1 : Int32)) fun v25 => k11 i13 v25 M21)) else (bd (fX12_bitsOf i13.toInt64) fun b26 => bd (fX12_bitsOf i12.toInt64) fun b27 => if b26 < b27 then (bd (fX12_stonesOf i13 M14) fun g29 => bE (fX12_findCounts g29 (0 : Int64) M14) fun u30 M31 => bd (fX12_isYes x1 M31) fun b32 => if b32 = b10 then (nm (i13 + (1 : Int32)) fun v34 => k11 i12 v34 M31) else (nm (i13 + (1 : Int32)) fun v35 => k11 i13 v35 M31)) else (nm (i13 + (1 : Int32)) fun v36 => k11 i12 v36 M14)))
def fX12_findHung_l84 (i4 : Int32) (x1 : Int32) (b10 : Int32) : Nat → Int32 → Int32 → Mem → Option (Int64 × Mem)
  | 0, _, _, _ => none
  | n + 1, i12, i13, M14 => fX12_findHung_b84 i4 x1 b10 (fX12_findHung_l84 i4 x1 b10 n) i12 i13 M14
def fX12_findHung_b84_41 (i4 : Int32) (x1 : Int32) (b40 : Int32) (k41 : Int32 → Int32 → Mem → Option (Int64 × Mem)) (i42 : Int32) (i43 : Int32) (M44 : Mem) : Option (Int64 × Mem) :=
  if ((1 : Int32) <<< (i4 &&& 31)) ≤ i43 then (if 0 ≤ i42 then (bd (fX12_stonesOf i42 M44) fun g47 => some (g47, M44)) else (some ((-2 : Int64), M44))) else (if i42 < 0 then (bd (fX12_stonesOf i43 M44) fun g49 => bE (fX12_findCounts g49 (0 : Int64) M44) fun u50 M51 => bd (fX12_isYes x1 M51) fun b52 => if b52 = b40 then (nm (i43 + (1 : Int32)) fun v54 => k41 i42 v54 M51) else (nm (i43 + (1 : Int32)) fun v55 => k41 i43 v55 M51)) else (bd (fX12_bitsOf i43.toInt64) fun b56 => bd (fX12_bitsOf i42.toInt64) fun b57 => if b56 < b57 then (bd (fX12_stonesOf i43 M44) fun g59 => bE (fX12_findCounts g59 (0 : Int64) M44) fun u60 M61 => bd (fX12_isYes x1 M61) fun b62 => if b62 = b40 then (nm (i43 + (1 : Int32)) fun v64 => k41 i42 v64 M61) else (nm (i43 + (1 : Int32)) fun v65 => k41 i43 v65 M61)) else (nm (i43 + (1 : Int32)) fun v66 => k41 i42 v66 M44)))
def fX12_findHung_l84_41 (i4 : Int32) (x1 : Int32) (b40 : Int32) : Nat → Int32 → Int32 → Mem → Option (Int64 × Mem)
  | 0, _, _, _ => none
  | n + 1, i42, i43, M44 => fX12_findHung_b84_41 i4 x1 b40 (fX12_findHung_l84_41 i4 x1 b40 n) i42 i43 M44
def fX12_findHung_b8 (x1 : Int32) (k3 : Int32 → Int32 → Mem → Option (Int64 × Mem)) (i4 : Int32) (i5 : Int32) (M6 : Mem) : Option (Int64 × Mem) :=
  if x1 ≤ i5 then (bE (fX12_findCounts (0 : Int64) (0 : Int64) M6) fun u8 M9 => bd (fX12_isYes x1 M9) fun b10 => fX12_findHung_l84 i4 x1 b10 FU (-1 : Int32) (1 : Int32) M9) else (if (8 : Int32) ≤ i4 then (bE (fX12_findCounts (0 : Int64) (0 : Int64) M6) fun u38 M39 => bd (fX12_isYes x1 M39) fun b40 => fX12_findHung_l84_41 i4 x1 b40 FU (-1 : Int32) (1 : Int32) M39) else (bd (fX12_isOn x1 i5 M6) fun b67 => if b67 = 0 then (nm (i5 + (1 : Int32)) fun v69 => k3 i4 v69 M6) else (ix i5 64 <| if (mgI M6 5000 0 i5.toNatClampNeg) = (1 : Int32) then (ix i5 64 <| if (mgI M6 5400 0 i5.toNatClampNeg) < 0 then (ix i4 10 <| nm (msI M6 7500 0 i4.toNatClampNeg i5) fun M73 => nm (i4 + (1 : Int32)) fun v74 => nm (i5 + (1 : Int32)) fun v75 => k3 v74 v75 M73) else (nm (i5 + (1 : Int32)) fun v76 => k3 i4 v76 M6)) else (nm (i5 + (1 : Int32)) fun v71 => k3 i4 v71 M6))))
def fX12_findHung_l8 (x1 : Int32) : Nat → Int32 → Int32 → Mem → Option (Int64 × Mem)
  | 0, _, _, _ => none
  | n + 1, i4, i5, M6 => fX12_findHung_b8 x1 (fX12_findHung_l8 x1 n) i4 i5 M6
def fX12_findHung (x1 : Int32) (M0 : Mem) : Option (Int64 × Mem) :=
  bE (fX12_findStanding M0) fun u1 M2 => fX12_findHung_l8 x1 FU (0 : Int32) (0 : Int32) M2
set_option maxHeartbeats 4000000 in
set_option maxRecDepth 100000 in
theorem mX12_findHung {l : Launch} {D : va_G} {cy : Nat → ClassId} {A : Nat → Prop} {Z : State → Heap → Prop} {ad : Nat → Nat → Nat} (hZk : ZOK A Z) (x1 : Int32) (M0 : Mem) (r : Int64) (M' : Mem) (h : fX12_findHung x1 M0 = some (r, M')) : Met l yX12_findHung (wt yX12_findHung cX12_findHung 6 (some .long)) (rm 3 80) (CPre D cy A Z cnM ad M0 [.ref (ad 12 0), .int x1]) (QL D cy A cnM ad r M') 0 0 A := by
  refine tb_start [.ref (ad 12 0), .int x1] [(0, .ref (ad 12 0)), (1, .int x1)] RX12 rfl (by decide +kernel) (Nat.le_of_ble_eq_true rfl) rfl (fun p e s m args below meth c hx hb hr hml hown hts hlk hW hK hZ ls hl => ?_)
  have hS : va_S A s.heap s.heap [] := va_S.rf
  unfold fX12_findHung at h
  refine lv_aload_n hx hb dX12_findHung_0 rfl (lv_at hl 0 rfl) ?_
  obtain ⟨u1, M2, hcu1, h⟩ := bE_a h
  refine tb_cVV hZk hx hb hml hown hts hK hZ hW hS [] (mX12_findStanding (l := l) hZk M0 u1 M2 hcu1) pmX12_findStanding tw1439 (Wd.recv hK hW (t := 12) (by decide) cz12 (C := RX12) (T := TX12) (N := 58) rfl) ⟨Nat.le_of_ble_eq_true rfl, Nat.le_of_ble_eq_true rfl⟩ rfl hl.1 (Nat.le_of_ble_eq_true rfl) ⟨Nat.le_refl _, Nat.le_refl _⟩ rfl dX12_findHung_1 (fun H locs hW hS => ?_)
  refine lv_iconst (v := (0 : Int32)) hx hb dX12_findHung_4 (by decide) ?_
  refine lv_istore_n (lv' := [(2, .int (0 : Int32)), (0, .ref (ad 12 0)), (1, .int x1)]) hx hb dX12_findHung_5 rfl hl (by decide) rfl (fun ls hl => ?_)
  refine lv_iconst (v := (0 : Int32)) hx hb dX12_findHung_6 (by decide) ?_
  refine lv_istore_n (lv' := [(3, .int (0 : Int32)), (2, .int (0 : Int32)), (0, .ref (ad 12 0)), (1, .int x1)]) hx hb dX12_findHung_7 rfl hl (by decide) rfl (fun ls hl => ?_)
  have L3 : ∀ (n3 : Nat) (i4 : Int32) (i5 : Int32) (M6 : Mem) (H : Heap) (locs : List Loc) (ls : Array Slot), Wd D cy A cnM ad M6 H → va_S A s.heap H locs → lv_has ls 6 [(0, .ref (ad 12 0)), (1, .int x1), (2, .int i4), (3, .int i5)] → fX12_findHung_l8 x1 n3 i4 i5 M6 = some (r, M') → W p l e (rm 3 80) s m args below meth c H locs 0 0 (MQ below (QL D cy A cnM ad r M') args s 0 0 A) (F0 m 8 ls []) := by
    intro n3
    induction n3 with
    | zero => intro i4 i5 M6 H locs ls hW hS hl h; cases h
    | succ n3 ih3 =>
      intro i4 i5 M6 H locs ls hW hS hl h
      unfold fX12_findHung_l8 fX12_findHung_b8 at h
      refine lv_iload_n hx hb dX12_findHung_8 rfl (lv_at hl 3 rfl) ?_
      refine lv_iload_n hx hb dX12_findHung_9 rfl (lv_at hl 1 rfl) ?_
      refine lv_icmp_ge (tgt := 66) hx hb dX12_findHung_10 (by decide) (fun c7 => ?_) (fun c7 => ?_)
      · have h := sh_t c7 h
        refine lv_aload_n hx hb dX12_findHung_66 rfl (lv_at hl 0 rfl) ?_
        refine lv_lconst (v := (0 : Int64)) hx hb dX12_findHung_67 (by decide) ?_
        refine lv_lconst (v := (0 : Int64)) hx hb dX12_findHung_68 (by decide) ?_
        obtain ⟨u8, M9, hcu8, h⟩ := bE_a h
        refine tb_cVV hZk hx hb hml hown hts hK hZ hW hS [.long (0 : Int64), .long (0 : Int64)] (mX12_findCounts (l := l) hZk (0 : Int64) (0 : Int64) M6 u8 M9 hcu8) pmX12_findCounts tw1455 (Wd.recv hK hW (t := 12) (by decide) cz12 (C := RX12) (T := TX12) (N := 58) rfl) ⟨Nat.le_of_ble_eq_true rfl, Nat.le_of_ble_eq_true rfl⟩ rfl hl.1 (Nat.le_of_ble_eq_true rfl) ⟨Nat.le_refl _, Nat.le_refl _⟩ rfl dX12_findHung_69 (fun H locs hW hS => ?_)
        refine lv_aload_n hx hb dX12_findHung_72 rfl (lv_at hl 0 rfl) ?_
        refine lv_iload_n hx hb dX12_findHung_73 rfl (lv_at hl 1 rfl) ?_
        obtain ⟨b10, hcb10, h⟩ := bd_a h
        refine tb_cVZ hZk hx hb hml hown hts hK hZ hW hS [.int x1] (mX12_isYes (l := l) hZk x1 M9 b10 hcb10) pmX12_isYes tw1484 (Wd.recv hK hW (t := 12) (by decide) cz12 (C := RX12) (T := TX12) (N := 58) rfl) ⟨Nat.le_of_ble_eq_true rfl, Nat.le_of_ble_eq_true rfl⟩ rfl hl.1 (Nat.le_of_ble_eq_true rfl) ⟨Nat.le_refl _, Nat.le_refl _⟩ rfl dX12_findHung_74 (fun H locs hW hS hzz => ?_)
        have hzb10 := hzz
        refine lv_istore_n (lv' := [(3, .int b10), (0, .ref (ad 12 0)), (1, .int x1), (2, .int i4)]) hx hb dX12_findHung_77 rfl hl (by decide) rfl (fun ls hl => ?_)
        refine lv_iconst (v := (-1 : Int32)) hx hb dX12_findHung_78 (by decide) ?_
        refine lv_istore (lv' := [(4, .int (-1 : Int32)), (3, .int b10), (0, .ref (ad 12 0)), (1, .int x1), (2, .int i4)]) hx hb dX12_findHung_79 hl (by decide) rfl (fun ls hl => ?_)
        refine lv_iconst (v := (1 : Int32)) hx hb dX12_findHung_81 (by decide) ?_
        refine lv_istore (lv' := [(5, .int (1 : Int32)), (4, .int (-1 : Int32)), (3, .int b10), (0, .ref (ad 12 0)), (1, .int x1), (2, .int i4)]) hx hb dX12_findHung_82 hl (by decide) rfl (fun ls hl => ?_)
        have L11 : ∀ (n11 : Nat) (i12 : Int32) (i13 : Int32) (M14 : Mem) (H : Heap) (locs : List Loc) (ls : Array Slot), Wd D cy A cnM ad M14 H → va_S A s.heap H locs → lv_has ls 6 [(0, .ref (ad 12 0)), (1, .int x1), (2, .int i4), (3, .int b10), (4, .int i12), (5, .int i13)] → fX12_findHung_l84 i4 x1 b10 n11 i12 i13 M14 = some (r, M') → W p l e (rm 3 80) s m args below meth c H locs 0 0 (MQ below (QL D cy A cnM ad r M') args s 0 0 A) (F0 m 84 ls []) := by
          intro n11
          induction n11 with
          | zero => intro i12 i13 M14 H locs ls hW hS hl h; cases h
          | succ n11 ih11 =>
            intro i12 i13 M14 H locs ls hW hS hl h
            unfold fX12_findHung_l84 fX12_findHung_b84 at h
            refine lv_iload hx hb dX12_findHung_84 (lv_at hl 5 rfl) ?_
            refine lv_iconst (v := (1 : Int32)) hx hb dX12_findHung_86 (by decide) ?_
            refine lv_iload_n hx hb dX12_findHung_87 rfl (lv_at hl 2 rfl) ?_
            refine lv_ishl hx hb dX12_findHung_88 ?_
            refine lv_icmp_ge (tgt := 145) hx hb dX12_findHung_89 (by decide) (fun c15 => ?_) (fun c15 => ?_)
            · have h := sh_t c15 h
              refine lv_iload hx hb dX12_findHung_145 (lv_at hl 4 rfl) ?_
              refine lv_if_ge (tgt := 156) hx hb dX12_findHung_147 (by decide) (fun c16 => ?_) (fun c16 => ?_)
              · have h := sh_t c16 h
                refine lv_aload_n hx hb dX12_findHung_156 rfl (lv_at hl 0 rfl) ?_
                refine lv_iload hx hb dX12_findHung_157 (lv_at hl 4 rfl) ?_
                obtain ⟨g17, hcg17, h⟩ := bd_a h
                refine tb_cVL hZk hx hb hml hown hts hK hZ hW hS [.int i12] (mX12_stonesOf (l := l) hZk i12 M14 g17 hcg17) pmX12_stonesOf tw1544 (Wd.recv hK hW (t := 12) (by decide) cz12 (C := RX12) (T := TX12) (N := 58) rfl) ⟨Nat.le_of_ble_eq_true rfl, Nat.le_of_ble_eq_true rfl⟩ rfl hl.1 (Nat.le_of_ble_eq_true rfl) ⟨Nat.le_refl _, Nat.le_refl _⟩ rfl dX12_findHung_159 (fun H locs hW hS => ?_)
                exact tb_lretE h hx hb hr hS hW hlk dX12_findHung_162
              · have h := sh_f c16 h
                refine lv_ldc2 hx hb hown (hts _ tw1548) dX12_findHung_150 ?_
                refine lv_goto (tgt := 162) hx hb dX12_findHung_153 (by decide) ?_
                exact tb_lretE h hx hb hr hS hW hlk dX12_findHung_162
            · have h := sh_f c15 h
              refine lv_iload hx hb dX12_findHung_92 (lv_at hl 4 rfl) ?_
              refine lv_if_lt (tgt := 115) hx hb dX12_findHung_94 (by decide) (fun c18 => ?_) (fun c18 => ?_)
              · have h := sh_t c18 h
                refine lv_aload_n hx hb dX12_findHung_115 rfl (lv_at hl 0 rfl) ?_
                refine lv_aload_n hx hb dX12_findHung_116 rfl (lv_at hl 0 rfl) ?_
                refine lv_iload hx hb dX12_findHung_117 (lv_at hl 5 rfl) ?_
                obtain ⟨g19, hcg19, h⟩ := bd_a h
                refine tb_cVL hZk hx hb hml hown hts hK hZ hW hS [.int i13] (mX12_stonesOf (l := l) hZk i13 M14 g19 hcg19) pmX12_stonesOf tw1544 (Wd.recv hK hW (t := 12) (by decide) cz12 (C := RX12) (T := TX12) (N := 58) rfl) ⟨Nat.le_of_ble_eq_true rfl, Nat.le_of_ble_eq_true rfl⟩ rfl hl.1 (Nat.le_of_ble_eq_true rfl) ⟨Nat.le_refl _, Nat.le_refl _⟩ rfl dX12_findHung_119 (fun H locs hW hS => ?_)
                refine lv_lconst (v := (0 : Int64)) hx hb dX12_findHung_122 (by decide) ?_
                obtain ⟨u20, M21, hcu20, h⟩ := bE_a h
                refine tb_cVV hZk hx hb hml hown hts hK hZ hW hS [.long g19, .long (0 : Int64)] (mX12_findCounts (l := l) hZk g19 (0 : Int64) M14 u20 M21 hcu20) pmX12_findCounts tw1455 (Wd.recv hK hW (t := 12) (by decide) cz12 (C := RX12) (T := TX12) (N := 58) rfl) ⟨Nat.le_of_ble_eq_true rfl, Nat.le_of_ble_eq_true rfl⟩ rfl hl.1 (Nat.le_of_ble_eq_true rfl) ⟨Nat.le_refl _, Nat.le_refl _⟩ rfl dX12_findHung_123 (fun H locs hW hS => ?_)
                refine lv_aload_n hx hb dX12_findHung_126 rfl (lv_at hl 0 rfl) ?_
                refine lv_iload_n hx hb dX12_findHung_127 rfl (lv_at hl 1 rfl) ?_
                obtain ⟨b22, hcb22, h⟩ := bd_a h
                refine tb_cVZ hZk hx hb hml hown hts hK hZ hW hS [.int x1] (mX12_isYes (l := l) hZk x1 M21 b22 hcb22) pmX12_isYes tw1484 (Wd.recv hK hW (t := 12) (by decide) cz12 (C := RX12) (T := TX12) (N := 58) rfl) ⟨Nat.le_of_ble_eq_true rfl, Nat.le_of_ble_eq_true rfl⟩ rfl hl.1 (Nat.le_of_ble_eq_true rfl) ⟨Nat.le_refl _, Nat.le_refl _⟩ rfl dX12_findHung_128 (fun H locs hW hS hzz => ?_)
                have hzb22 := hzz
                refine lv_iload_n hx hb dX12_findHung_131 rfl (lv_at hl 3 rfl) ?_
                refine lv_icmp_eq (tgt := 139) hx hb dX12_findHung_132 (by decide) (fun c23 => ?_) (fun c23 => ?_)
                · have h := sh_t c23 h
                  obtain ⟨v24, ev24⟩ : ∃ y : Int32, y = i13 + (1 : Int32) := ⟨_, rfl⟩
                  have h := nm_a ev24 h
                  refine lv_iinc (v := v24) (lv' := [(5, .int v24), (0, .ref (ad 12 0)), (1, .int x1), (2, .int i4), (3, .int b10), (4, .int i12)]) hx hb dX12_findHung_139 hl (k := 5) rfl (by rw [ev24]; rfl) (by decide) rfl (fun ls hl => ?_)
                  refine lv_goto (tgt := 84) hx hb dX12_findHung_142 (by decide) ?_
                  exact ih11 i12 v24 M21 _ _ _ hW hS (lv_sub hl [1, 2, 3, 4, 5, 0] rfl) h
                · have h := sh_f c23 h
                  refine lv_iload hx hb dX12_findHung_135 (lv_at hl 5 rfl) ?_
                  refine lv_istore (lv' := [(4, .int i13), (0, .ref (ad 12 0)), (1, .int x1), (2, .int i4), (3, .int b10), (5, .int i13)]) hx hb dX12_findHung_137 hl (by decide) rfl (fun ls hl => ?_)
                  obtain ⟨v25, ev25⟩ : ∃ y : Int32, y = i13 + (1 : Int32) := ⟨_, rfl⟩
                  have h := nm_a ev25 h
                  refine lv_iinc (v := v25) (lv' := [(5, .int v25), (4, .int i13), (0, .ref (ad 12 0)), (1, .int x1), (2, .int i4), (3, .int b10)]) hx hb dX12_findHung_139 hl (k := 5) rfl (by rw [ev25]; rfl) (by decide) rfl (fun ls hl => ?_)
                  refine lv_goto (tgt := 84) hx hb dX12_findHung_142 (by decide) ?_
                  exact ih11 i13 v25 M21 _ _ _ hW hS (lv_sub hl [2, 3, 4, 5, 1, 0] rfl) h
              · have h := sh_f c18 h
                refine lv_iload hx hb dX12_findHung_97 (lv_at hl 5 rfl) ?_
                refine lv_i2l hx hb dX12_findHung_99 rfl ?_
                obtain ⟨b26, hcb26, h⟩ := bd_a h
                refine tb_cSI hZk hx hb hml hown hts hK hZ hW hS [.long i13.toInt64] (mX12_bitsOf (l := l) hZk i13.toInt64 M14 b26 hcb26) pmX12_bitsOf tw1472 ⟨Nat.le_of_ble_eq_true rfl, Nat.le_of_ble_eq_true rfl⟩ rfl hl.1 (Nat.le_of_ble_eq_true rfl) ⟨Nat.le_refl _, Nat.le_refl _⟩ rfl dX12_findHung_100 (fun H locs hW hS => ?_)
                refine lv_iload hx hb dX12_findHung_103 (lv_at hl 4 rfl) ?_
                refine lv_i2l hx hb dX12_findHung_105 rfl ?_
                obtain ⟨b27, hcb27, h⟩ := bd_a h
                refine tb_cSI hZk hx hb hml hown hts hK hZ hW hS [.long i12.toInt64] (mX12_bitsOf (l := l) hZk i12.toInt64 M14 b27 hcb27) pmX12_bitsOf tw1472 ⟨Nat.le_of_ble_eq_true rfl, Nat.le_of_ble_eq_true rfl⟩ rfl hl.1 (Nat.le_of_ble_eq_true rfl) ⟨Nat.le_refl _, Nat.le_refl _⟩ rfl dX12_findHung_106 (fun H locs hW hS => ?_)
                refine lv_icmp_lt (tgt := 115) hx hb dX12_findHung_109 (by decide) (fun c28 => ?_) (fun c28 => ?_)
                · have h := sh_t c28 h
                  refine lv_aload_n hx hb dX12_findHung_115 rfl (lv_at hl 0 rfl) ?_
                  refine lv_aload_n hx hb dX12_findHung_116 rfl (lv_at hl 0 rfl) ?_
                  refine lv_iload hx hb dX12_findHung_117 (lv_at hl 5 rfl) ?_
                  obtain ⟨g29, hcg29, h⟩ := bd_a h
                  refine tb_cVL hZk hx hb hml hown hts hK hZ hW hS [.int i13] (mX12_stonesOf (l := l) hZk i13 M14 g29 hcg29) pmX12_stonesOf tw1544 (Wd.recv hK hW (t := 12) (by decide) cz12 (C := RX12) (T := TX12) (N := 58) rfl) ⟨Nat.le_of_ble_eq_true rfl, Nat.le_of_ble_eq_true rfl⟩ rfl hl.1 (Nat.le_of_ble_eq_true rfl) ⟨Nat.le_refl _, Nat.le_refl _⟩ rfl dX12_findHung_119 (fun H locs hW hS => ?_)
                  refine lv_lconst (v := (0 : Int64)) hx hb dX12_findHung_122 (by decide) ?_
                  obtain ⟨u30, M31, hcu30, h⟩ := bE_a h
                  refine tb_cVV hZk hx hb hml hown hts hK hZ hW hS [.long g29, .long (0 : Int64)] (mX12_findCounts (l := l) hZk g29 (0 : Int64) M14 u30 M31 hcu30) pmX12_findCounts tw1455 (Wd.recv hK hW (t := 12) (by decide) cz12 (C := RX12) (T := TX12) (N := 58) rfl) ⟨Nat.le_of_ble_eq_true rfl, Nat.le_of_ble_eq_true rfl⟩ rfl hl.1 (Nat.le_of_ble_eq_true rfl) ⟨Nat.le_refl _, Nat.le_refl _⟩ rfl dX12_findHung_123 (fun H locs hW hS => ?_)
                  refine lv_aload_n hx hb dX12_findHung_126 rfl (lv_at hl 0 rfl) ?_
                  refine lv_iload_n hx hb dX12_findHung_127 rfl (lv_at hl 1 rfl) ?_
                  obtain ⟨b32, hcb32, h⟩ := bd_a h
                  refine tb_cVZ hZk hx hb hml hown hts hK hZ hW hS [.int x1] (mX12_isYes (l := l) hZk x1 M31 b32 hcb32) pmX12_isYes tw1484 (Wd.recv hK hW (t := 12) (by decide) cz12 (C := RX12) (T := TX12) (N := 58) rfl) ⟨Nat.le_of_ble_eq_true rfl, Nat.le_of_ble_eq_true rfl⟩ rfl hl.1 (Nat.le_of_ble_eq_true rfl) ⟨Nat.le_refl _, Nat.le_refl _⟩ rfl dX12_findHung_128 (fun H locs hW hS hzz => ?_)
                  have hzb32 := hzz
                  refine lv_iload_n hx hb dX12_findHung_131 rfl (lv_at hl 3 rfl) ?_
                  refine lv_icmp_eq (tgt := 139) hx hb dX12_findHung_132 (by decide) (fun c33 => ?_) (fun c33 => ?_)
                  · have h := sh_t c33 h
                    obtain ⟨v34, ev34⟩ : ∃ y : Int32, y = i13 + (1 : Int32) := ⟨_, rfl⟩
                    have h := nm_a ev34 h
                    refine lv_iinc (v := v34) (lv' := [(5, .int v34), (0, .ref (ad 12 0)), (1, .int x1), (2, .int i4), (3, .int b10), (4, .int i12)]) hx hb dX12_findHung_139 hl (k := 5) rfl (by rw [ev34]; rfl) (by decide) rfl (fun ls hl => ?_)
                    refine lv_goto (tgt := 84) hx hb dX12_findHung_142 (by decide) ?_
                    exact ih11 i12 v34 M31 _ _ _ hW hS (lv_sub hl [1, 2, 3, 4, 5, 0] rfl) h
                  · have h := sh_f c33 h
                    refine lv_iload hx hb dX12_findHung_135 (lv_at hl 5 rfl) ?_
                    refine lv_istore (lv' := [(4, .int i13), (0, .ref (ad 12 0)), (1, .int x1), (2, .int i4), (3, .int b10), (5, .int i13)]) hx hb dX12_findHung_137 hl (by decide) rfl (fun ls hl => ?_)
                    obtain ⟨v35, ev35⟩ : ∃ y : Int32, y = i13 + (1 : Int32) := ⟨_, rfl⟩
                    have h := nm_a ev35 h
                    refine lv_iinc (v := v35) (lv' := [(5, .int v35), (4, .int i13), (0, .ref (ad 12 0)), (1, .int x1), (2, .int i4), (3, .int b10)]) hx hb dX12_findHung_139 hl (k := 5) rfl (by rw [ev35]; rfl) (by decide) rfl (fun ls hl => ?_)
                    refine lv_goto (tgt := 84) hx hb dX12_findHung_142 (by decide) ?_
                    exact ih11 i13 v35 M31 _ _ _ hW hS (lv_sub hl [2, 3, 4, 5, 1, 0] rfl) h
                · have h := sh_f c28 h
                  refine lv_goto (tgt := 139) hx hb dX12_findHung_112 (by decide) ?_
                  obtain ⟨v36, ev36⟩ : ∃ y : Int32, y = i13 + (1 : Int32) := ⟨_, rfl⟩
                  have h := nm_a ev36 h
                  refine lv_iinc (v := v36) (lv' := [(5, .int v36), (0, .ref (ad 12 0)), (1, .int x1), (2, .int i4), (3, .int b10), (4, .int i12)]) hx hb dX12_findHung_139 hl (k := 5) rfl (by rw [ev36]; rfl) (by decide) rfl (fun ls hl => ?_)
                  refine lv_goto (tgt := 84) hx hb dX12_findHung_142 (by decide) ?_
                  exact ih11 i12 v36 M14 _ _ _ hW hS (lv_sub hl [1, 2, 3, 4, 5, 0] rfl) h
        exact L11 FU (-1 : Int32) (1 : Int32) M9 _ _ _ hW hS (lv_sub hl [3, 4, 5, 2, 1, 0] rfl) h
      · have h := sh_f c7 h
        refine lv_iload_n hx hb dX12_findHung_13 rfl (lv_at hl 2 rfl) ?_
        refine lv_bipush (v := (8 : Int32)) hx hb dX12_findHung_14 (by decide) ?_
        refine lv_icmp_ge (tgt := 66) hx hb dX12_findHung_16 (by decide) (fun c37 => ?_) (fun c37 => ?_)
        · have h := sh_t c37 h
          refine lv_aload_n hx hb dX12_findHung_66 rfl (lv_at hl 0 rfl) ?_
          refine lv_lconst (v := (0 : Int64)) hx hb dX12_findHung_67 (by decide) ?_
          refine lv_lconst (v := (0 : Int64)) hx hb dX12_findHung_68 (by decide) ?_
          obtain ⟨u38, M39, hcu38, h⟩ := bE_a h
          refine tb_cVV hZk hx hb hml hown hts hK hZ hW hS [.long (0 : Int64), .long (0 : Int64)] (mX12_findCounts (l := l) hZk (0 : Int64) (0 : Int64) M6 u38 M39 hcu38) pmX12_findCounts tw1455 (Wd.recv hK hW (t := 12) (by decide) cz12 (C := RX12) (T := TX12) (N := 58) rfl) ⟨Nat.le_of_ble_eq_true rfl, Nat.le_of_ble_eq_true rfl⟩ rfl hl.1 (Nat.le_of_ble_eq_true rfl) ⟨Nat.le_refl _, Nat.le_refl _⟩ rfl dX12_findHung_69 (fun H locs hW hS => ?_)
          refine lv_aload_n hx hb dX12_findHung_72 rfl (lv_at hl 0 rfl) ?_
          refine lv_iload_n hx hb dX12_findHung_73 rfl (lv_at hl 1 rfl) ?_
          obtain ⟨b40, hcb40, h⟩ := bd_a h
          refine tb_cVZ hZk hx hb hml hown hts hK hZ hW hS [.int x1] (mX12_isYes (l := l) hZk x1 M39 b40 hcb40) pmX12_isYes tw1484 (Wd.recv hK hW (t := 12) (by decide) cz12 (C := RX12) (T := TX12) (N := 58) rfl) ⟨Nat.le_of_ble_eq_true rfl, Nat.le_of_ble_eq_true rfl⟩ rfl hl.1 (Nat.le_of_ble_eq_true rfl) ⟨Nat.le_refl _, Nat.le_refl _⟩ rfl dX12_findHung_74 (fun H locs hW hS hzz => ?_)
          have hzb40 := hzz
          refine lv_istore_n (lv' := [(3, .int b40), (0, .ref (ad 12 0)), (1, .int x1), (2, .int i4)]) hx hb dX12_findHung_77 rfl hl (by decide) rfl (fun ls hl => ?_)
          refine lv_iconst (v := (-1 : Int32)) hx hb dX12_findHung_78 (by decide) ?_
          refine lv_istore (lv' := [(4, .int (-1 : Int32)), (3, .int b40), (0, .ref (ad 12 0)), (1, .int x1), (2, .int i4)]) hx hb dX12_findHung_79 hl (by decide) rfl (fun ls hl => ?_)
          refine lv_iconst (v := (1 : Int32)) hx hb dX12_findHung_81 (by decide) ?_
          refine lv_istore (lv' := [(5, .int (1 : Int32)), (4, .int (-1 : Int32)), (3, .int b40), (0, .ref (ad 12 0)), (1, .int x1), (2, .int i4)]) hx hb dX12_findHung_82 hl (by decide) rfl (fun ls hl => ?_)
          have L41 : ∀ (n41 : Nat) (i42 : Int32) (i43 : Int32) (M44 : Mem) (H : Heap) (locs : List Loc) (ls : Array Slot), Wd D cy A cnM ad M44 H → va_S A s.heap H locs → lv_has ls 6 [(0, .ref (ad 12 0)), (1, .int x1), (2, .int i4), (3, .int b40), (4, .int i42), (5, .int i43)] → fX12_findHung_l84_41 i4 x1 b40 n41 i42 i43 M44 = some (r, M') → W p l e (rm 3 80) s m args below meth c H locs 0 0 (MQ below (QL D cy A cnM ad r M') args s 0 0 A) (F0 m 84 ls []) := by
            intro n41
            induction n41 with
            | zero => intro i42 i43 M44 H locs ls hW hS hl h; cases h
            | succ n41 ih41 =>
              intro i42 i43 M44 H locs ls hW hS hl h
              unfold fX12_findHung_l84_41 fX12_findHung_b84_41 at h
              refine lv_iload hx hb dX12_findHung_84 (lv_at hl 5 rfl) ?_
              refine lv_iconst (v := (1 : Int32)) hx hb dX12_findHung_86 (by decide) ?_
              refine lv_iload_n hx hb dX12_findHung_87 rfl (lv_at hl 2 rfl) ?_
              refine lv_ishl hx hb dX12_findHung_88 ?_
              refine lv_icmp_ge (tgt := 145) hx hb dX12_findHung_89 (by decide) (fun c45 => ?_) (fun c45 => ?_)
              · have h := sh_t c45 h
                refine lv_iload hx hb dX12_findHung_145 (lv_at hl 4 rfl) ?_
                refine lv_if_ge (tgt := 156) hx hb dX12_findHung_147 (by decide) (fun c46 => ?_) (fun c46 => ?_)
                · have h := sh_t c46 h
                  refine lv_aload_n hx hb dX12_findHung_156 rfl (lv_at hl 0 rfl) ?_
                  refine lv_iload hx hb dX12_findHung_157 (lv_at hl 4 rfl) ?_
                  obtain ⟨g47, hcg47, h⟩ := bd_a h
                  refine tb_cVL hZk hx hb hml hown hts hK hZ hW hS [.int i42] (mX12_stonesOf (l := l) hZk i42 M44 g47 hcg47) pmX12_stonesOf tw1544 (Wd.recv hK hW (t := 12) (by decide) cz12 (C := RX12) (T := TX12) (N := 58) rfl) ⟨Nat.le_of_ble_eq_true rfl, Nat.le_of_ble_eq_true rfl⟩ rfl hl.1 (Nat.le_of_ble_eq_true rfl) ⟨Nat.le_refl _, Nat.le_refl _⟩ rfl dX12_findHung_159 (fun H locs hW hS => ?_)
                  exact tb_lretE h hx hb hr hS hW hlk dX12_findHung_162
                · have h := sh_f c46 h
                  refine lv_ldc2 hx hb hown (hts _ tw1548) dX12_findHung_150 ?_
                  refine lv_goto (tgt := 162) hx hb dX12_findHung_153 (by decide) ?_
                  exact tb_lretE h hx hb hr hS hW hlk dX12_findHung_162
              · have h := sh_f c45 h
                refine lv_iload hx hb dX12_findHung_92 (lv_at hl 4 rfl) ?_
                refine lv_if_lt (tgt := 115) hx hb dX12_findHung_94 (by decide) (fun c48 => ?_) (fun c48 => ?_)
                · have h := sh_t c48 h
                  refine lv_aload_n hx hb dX12_findHung_115 rfl (lv_at hl 0 rfl) ?_
                  refine lv_aload_n hx hb dX12_findHung_116 rfl (lv_at hl 0 rfl) ?_
                  refine lv_iload hx hb dX12_findHung_117 (lv_at hl 5 rfl) ?_
                  obtain ⟨g49, hcg49, h⟩ := bd_a h
                  refine tb_cVL hZk hx hb hml hown hts hK hZ hW hS [.int i43] (mX12_stonesOf (l := l) hZk i43 M44 g49 hcg49) pmX12_stonesOf tw1544 (Wd.recv hK hW (t := 12) (by decide) cz12 (C := RX12) (T := TX12) (N := 58) rfl) ⟨Nat.le_of_ble_eq_true rfl, Nat.le_of_ble_eq_true rfl⟩ rfl hl.1 (Nat.le_of_ble_eq_true rfl) ⟨Nat.le_refl _, Nat.le_refl _⟩ rfl dX12_findHung_119 (fun H locs hW hS => ?_)
                  refine lv_lconst (v := (0 : Int64)) hx hb dX12_findHung_122 (by decide) ?_
                  obtain ⟨u50, M51, hcu50, h⟩ := bE_a h
                  refine tb_cVV hZk hx hb hml hown hts hK hZ hW hS [.long g49, .long (0 : Int64)] (mX12_findCounts (l := l) hZk g49 (0 : Int64) M44 u50 M51 hcu50) pmX12_findCounts tw1455 (Wd.recv hK hW (t := 12) (by decide) cz12 (C := RX12) (T := TX12) (N := 58) rfl) ⟨Nat.le_of_ble_eq_true rfl, Nat.le_of_ble_eq_true rfl⟩ rfl hl.1 (Nat.le_of_ble_eq_true rfl) ⟨Nat.le_refl _, Nat.le_refl _⟩ rfl dX12_findHung_123 (fun H locs hW hS => ?_)
                  refine lv_aload_n hx hb dX12_findHung_126 rfl (lv_at hl 0 rfl) ?_
                  refine lv_iload_n hx hb dX12_findHung_127 rfl (lv_at hl 1 rfl) ?_
                  obtain ⟨b52, hcb52, h⟩ := bd_a h
                  refine tb_cVZ hZk hx hb hml hown hts hK hZ hW hS [.int x1] (mX12_isYes (l := l) hZk x1 M51 b52 hcb52) pmX12_isYes tw1484 (Wd.recv hK hW (t := 12) (by decide) cz12 (C := RX12) (T := TX12) (N := 58) rfl) ⟨Nat.le_of_ble_eq_true rfl, Nat.le_of_ble_eq_true rfl⟩ rfl hl.1 (Nat.le_of_ble_eq_true rfl) ⟨Nat.le_refl _, Nat.le_refl _⟩ rfl dX12_findHung_128 (fun H locs hW hS hzz => ?_)
                  have hzb52 := hzz
                  refine lv_iload_n hx hb dX12_findHung_131 rfl (lv_at hl 3 rfl) ?_
                  refine lv_icmp_eq (tgt := 139) hx hb dX12_findHung_132 (by decide) (fun c53 => ?_) (fun c53 => ?_)
                  · have h := sh_t c53 h
                    obtain ⟨v54, ev54⟩ : ∃ y : Int32, y = i43 + (1 : Int32) := ⟨_, rfl⟩
                    have h := nm_a ev54 h
                    refine lv_iinc (v := v54) (lv' := [(5, .int v54), (0, .ref (ad 12 0)), (1, .int x1), (2, .int i4), (3, .int b40), (4, .int i42)]) hx hb dX12_findHung_139 hl (k := 5) rfl (by rw [ev54]; rfl) (by decide) rfl (fun ls hl => ?_)
                    refine lv_goto (tgt := 84) hx hb dX12_findHung_142 (by decide) ?_
                    exact ih41 i42 v54 M51 _ _ _ hW hS (lv_sub hl [1, 2, 3, 4, 5, 0] rfl) h
                  · have h := sh_f c53 h
                    refine lv_iload hx hb dX12_findHung_135 (lv_at hl 5 rfl) ?_
                    refine lv_istore (lv' := [(4, .int i43), (0, .ref (ad 12 0)), (1, .int x1), (2, .int i4), (3, .int b40), (5, .int i43)]) hx hb dX12_findHung_137 hl (by decide) rfl (fun ls hl => ?_)
                    obtain ⟨v55, ev55⟩ : ∃ y : Int32, y = i43 + (1 : Int32) := ⟨_, rfl⟩
                    have h := nm_a ev55 h
                    refine lv_iinc (v := v55) (lv' := [(5, .int v55), (4, .int i43), (0, .ref (ad 12 0)), (1, .int x1), (2, .int i4), (3, .int b40)]) hx hb dX12_findHung_139 hl (k := 5) rfl (by rw [ev55]; rfl) (by decide) rfl (fun ls hl => ?_)
                    refine lv_goto (tgt := 84) hx hb dX12_findHung_142 (by decide) ?_
                    exact ih41 i43 v55 M51 _ _ _ hW hS (lv_sub hl [2, 3, 4, 5, 1, 0] rfl) h
                · have h := sh_f c48 h
                  refine lv_iload hx hb dX12_findHung_97 (lv_at hl 5 rfl) ?_
                  refine lv_i2l hx hb dX12_findHung_99 rfl ?_
                  obtain ⟨b56, hcb56, h⟩ := bd_a h
                  refine tb_cSI hZk hx hb hml hown hts hK hZ hW hS [.long i43.toInt64] (mX12_bitsOf (l := l) hZk i43.toInt64 M44 b56 hcb56) pmX12_bitsOf tw1472 ⟨Nat.le_of_ble_eq_true rfl, Nat.le_of_ble_eq_true rfl⟩ rfl hl.1 (Nat.le_of_ble_eq_true rfl) ⟨Nat.le_refl _, Nat.le_refl _⟩ rfl dX12_findHung_100 (fun H locs hW hS => ?_)
                  refine lv_iload hx hb dX12_findHung_103 (lv_at hl 4 rfl) ?_
                  refine lv_i2l hx hb dX12_findHung_105 rfl ?_
                  obtain ⟨b57, hcb57, h⟩ := bd_a h
                  refine tb_cSI hZk hx hb hml hown hts hK hZ hW hS [.long i42.toInt64] (mX12_bitsOf (l := l) hZk i42.toInt64 M44 b57 hcb57) pmX12_bitsOf tw1472 ⟨Nat.le_of_ble_eq_true rfl, Nat.le_of_ble_eq_true rfl⟩ rfl hl.1 (Nat.le_of_ble_eq_true rfl) ⟨Nat.le_refl _, Nat.le_refl _⟩ rfl dX12_findHung_106 (fun H locs hW hS => ?_)
                  refine lv_icmp_lt (tgt := 115) hx hb dX12_findHung_109 (by decide) (fun c58 => ?_) (fun c58 => ?_)
                  · have h := sh_t c58 h
                    refine lv_aload_n hx hb dX12_findHung_115 rfl (lv_at hl 0 rfl) ?_
                    refine lv_aload_n hx hb dX12_findHung_116 rfl (lv_at hl 0 rfl) ?_
                    refine lv_iload hx hb dX12_findHung_117 (lv_at hl 5 rfl) ?_
                    obtain ⟨g59, hcg59, h⟩ := bd_a h
                    refine tb_cVL hZk hx hb hml hown hts hK hZ hW hS [.int i43] (mX12_stonesOf (l := l) hZk i43 M44 g59 hcg59) pmX12_stonesOf tw1544 (Wd.recv hK hW (t := 12) (by decide) cz12 (C := RX12) (T := TX12) (N := 58) rfl) ⟨Nat.le_of_ble_eq_true rfl, Nat.le_of_ble_eq_true rfl⟩ rfl hl.1 (Nat.le_of_ble_eq_true rfl) ⟨Nat.le_refl _, Nat.le_refl _⟩ rfl dX12_findHung_119 (fun H locs hW hS => ?_)
                    refine lv_lconst (v := (0 : Int64)) hx hb dX12_findHung_122 (by decide) ?_
                    obtain ⟨u60, M61, hcu60, h⟩ := bE_a h
                    refine tb_cVV hZk hx hb hml hown hts hK hZ hW hS [.long g59, .long (0 : Int64)] (mX12_findCounts (l := l) hZk g59 (0 : Int64) M44 u60 M61 hcu60) pmX12_findCounts tw1455 (Wd.recv hK hW (t := 12) (by decide) cz12 (C := RX12) (T := TX12) (N := 58) rfl) ⟨Nat.le_of_ble_eq_true rfl, Nat.le_of_ble_eq_true rfl⟩ rfl hl.1 (Nat.le_of_ble_eq_true rfl) ⟨Nat.le_refl _, Nat.le_refl _⟩ rfl dX12_findHung_123 (fun H locs hW hS => ?_)
                    refine lv_aload_n hx hb dX12_findHung_126 rfl (lv_at hl 0 rfl) ?_
                    refine lv_iload_n hx hb dX12_findHung_127 rfl (lv_at hl 1 rfl) ?_
                    obtain ⟨b62, hcb62, h⟩ := bd_a h
                    refine tb_cVZ hZk hx hb hml hown hts hK hZ hW hS [.int x1] (mX12_isYes (l := l) hZk x1 M61 b62 hcb62) pmX12_isYes tw1484 (Wd.recv hK hW (t := 12) (by decide) cz12 (C := RX12) (T := TX12) (N := 58) rfl) ⟨Nat.le_of_ble_eq_true rfl, Nat.le_of_ble_eq_true rfl⟩ rfl hl.1 (Nat.le_of_ble_eq_true rfl) ⟨Nat.le_refl _, Nat.le_refl _⟩ rfl dX12_findHung_128 (fun H locs hW hS hzz => ?_)
                    have hzb62 := hzz
                    refine lv_iload_n hx hb dX12_findHung_131 rfl (lv_at hl 3 rfl) ?_
                    refine lv_icmp_eq (tgt := 139) hx hb dX12_findHung_132 (by decide) (fun c63 => ?_) (fun c63 => ?_)
                    · have h := sh_t c63 h
                      obtain ⟨v64, ev64⟩ : ∃ y : Int32, y = i43 + (1 : Int32) := ⟨_, rfl⟩
                      have h := nm_a ev64 h
                      refine lv_iinc (v := v64) (lv' := [(5, .int v64), (0, .ref (ad 12 0)), (1, .int x1), (2, .int i4), (3, .int b40), (4, .int i42)]) hx hb dX12_findHung_139 hl (k := 5) rfl (by rw [ev64]; rfl) (by decide) rfl (fun ls hl => ?_)
                      refine lv_goto (tgt := 84) hx hb dX12_findHung_142 (by decide) ?_
                      exact ih41 i42 v64 M61 _ _ _ hW hS (lv_sub hl [1, 2, 3, 4, 5, 0] rfl) h
                    · have h := sh_f c63 h
                      refine lv_iload hx hb dX12_findHung_135 (lv_at hl 5 rfl) ?_
                      refine lv_istore (lv' := [(4, .int i43), (0, .ref (ad 12 0)), (1, .int x1), (2, .int i4), (3, .int b40), (5, .int i43)]) hx hb dX12_findHung_137 hl (by decide) rfl (fun ls hl => ?_)
                      obtain ⟨v65, ev65⟩ : ∃ y : Int32, y = i43 + (1 : Int32) := ⟨_, rfl⟩
                      have h := nm_a ev65 h
                      refine lv_iinc (v := v65) (lv' := [(5, .int v65), (4, .int i43), (0, .ref (ad 12 0)), (1, .int x1), (2, .int i4), (3, .int b40)]) hx hb dX12_findHung_139 hl (k := 5) rfl (by rw [ev65]; rfl) (by decide) rfl (fun ls hl => ?_)
                      refine lv_goto (tgt := 84) hx hb dX12_findHung_142 (by decide) ?_
                      exact ih41 i43 v65 M61 _ _ _ hW hS (lv_sub hl [2, 3, 4, 5, 1, 0] rfl) h
                  · have h := sh_f c58 h
                    refine lv_goto (tgt := 139) hx hb dX12_findHung_112 (by decide) ?_
                    obtain ⟨v66, ev66⟩ : ∃ y : Int32, y = i43 + (1 : Int32) := ⟨_, rfl⟩
                    have h := nm_a ev66 h
                    refine lv_iinc (v := v66) (lv' := [(5, .int v66), (0, .ref (ad 12 0)), (1, .int x1), (2, .int i4), (3, .int b40), (4, .int i42)]) hx hb dX12_findHung_139 hl (k := 5) rfl (by rw [ev66]; rfl) (by decide) rfl (fun ls hl => ?_)
                    refine lv_goto (tgt := 84) hx hb dX12_findHung_142 (by decide) ?_
                    exact ih41 i42 v66 M44 _ _ _ hW hS (lv_sub hl [1, 2, 3, 4, 5, 0] rfl) h
          exact L41 FU (-1 : Int32) (1 : Int32) M39 _ _ _ hW hS (lv_sub hl [3, 4, 5, 2, 1, 0] rfl) h
        · have h := sh_f c37 h
          refine lv_aload_n hx hb dX12_findHung_19 rfl (lv_at hl 0 rfl) ?_
          refine lv_iload_n hx hb dX12_findHung_20 rfl (lv_at hl 1 rfl) ?_
          refine lv_iload_n hx hb dX12_findHung_21 rfl (lv_at hl 3 rfl) ?_
          obtain ⟨b67, hcb67, h⟩ := bd_a h
          refine tb_cVZ hZk hx hb hml hown hts hK hZ hW hS [.int x1, .int i5] (mX12_isOn (l := l) hZk x1 i5 M6 b67 hcb67) pmX12_isOn tw1451 (Wd.recv hK hW (t := 12) (by decide) cz12 (C := RX12) (T := TX12) (N := 58) rfl) ⟨Nat.le_of_ble_eq_true rfl, Nat.le_of_ble_eq_true rfl⟩ rfl hl.1 (Nat.le_of_ble_eq_true rfl) ⟨Nat.le_refl _, Nat.le_refl _⟩ rfl dX12_findHung_22 (fun H locs hW hS hzz => ?_)
          have hzb67 := hzz
          refine lv_if_eq (tgt := 60) hx hb dX12_findHung_25 (by decide) (fun c68 => ?_) (fun c68 => ?_)
          · have h := sh_t c68 h
            obtain ⟨v69, ev69⟩ : ∃ y : Int32, y = i5 + (1 : Int32) := ⟨_, rfl⟩
            have h := nm_a ev69 h
            refine lv_iinc (v := v69) (lv' := [(3, .int v69), (0, .ref (ad 12 0)), (1, .int x1), (2, .int i4)]) hx hb dX12_findHung_60 hl (k := 3) rfl (by rw [ev69]; rfl) (by decide) rfl (fun ls hl => ?_)
            refine lv_goto (tgt := 8) hx hb dX12_findHung_63 (by decide) ?_
            exact ih3 i4 v69 M6 _ _ _ hW hS (lv_sub hl [1, 2, 3, 0] rfl) h
          · have h := sh_f c68 h
            refine lv_aload_n hx hb dX12_findHung_28 rfl (lv_at hl 0 rfl) ?_
            refine gtX12_7 hx hb hts hown hK hW cz12 dX12_findHung_29 ?_
            refine lv_iload_n hx hb dX12_findHung_32 rfl (lv_at hl 3 rfl) ?_
            obtain ⟨hj, h⟩ := ix_a h
            refine al50 hx hb hK hW cz50 hj dX12_findHung_33 ?_
            refine lv_iconst (v := (1 : Int32)) hx hb dX12_findHung_34 (by decide) ?_
            refine lv_icmp_ne (tgt := 60) hx hb dX12_findHung_35 (by decide) (fun c70 => ?_) (fun c70 => ?_)
            · have h := sh_f c70 h
              obtain ⟨v71, ev71⟩ : ∃ y : Int32, y = i5 + (1 : Int32) := ⟨_, rfl⟩
              have h := nm_a ev71 h
              refine lv_iinc (v := v71) (lv' := [(3, .int v71), (0, .ref (ad 12 0)), (1, .int x1), (2, .int i4)]) hx hb dX12_findHung_60 hl (k := 3) rfl (by rw [ev71]; rfl) (by decide) rfl (fun ls hl => ?_)
              refine lv_goto (tgt := 8) hx hb dX12_findHung_63 (by decide) ?_
              exact ih3 i4 v71 M6 _ _ _ hW hS (lv_sub hl [1, 2, 3, 0] rfl) h
            · have h := sh_t c70 h
              refine lv_aload_n hx hb dX12_findHung_38 rfl (lv_at hl 0 rfl) ?_
              refine gtX12_22 hx hb hts hown hK hW cz12 dX12_findHung_39 ?_
              refine lv_iload_n hx hb dX12_findHung_42 rfl (lv_at hl 3 rfl) ?_
              obtain ⟨hj, h⟩ := ix_a h
              refine al54 hx hb hK hW cz54 hj dX12_findHung_43 ?_
              refine lv_if_lt (tgt := 50) hx hb dX12_findHung_44 (by decide) (fun c72 => ?_) (fun c72 => ?_)
              · have h := sh_t c72 h
                refine lv_aload_n hx hb dX12_findHung_50 rfl (lv_at hl 0 rfl) ?_
                refine gtX12_87 hx hb hts hown hK hW cz12 dX12_findHung_51 ?_
                refine lv_iload_n hx hb dX12_findHung_54 rfl (lv_at hl 2 rfl) ?_
                refine lv_iload_n hx hb dX12_findHung_55 rfl (lv_at hl 3 rfl) ?_
                obtain ⟨hj, h⟩ := ix_a h
                refine as75 hx hb hK hW hS cz75 hj dX12_findHung_56 (fun H locs hW hS => ?_)
                obtain ⟨M73, eM73⟩ : ∃ y, y = msI M6 7500 0 i4.toNatClampNeg i5 := ⟨_, rfl⟩
                have h := nm_a eM73 h
                rw [← eM73] at hW
                obtain ⟨v74, ev74⟩ : ∃ y : Int32, y = i4 + (1 : Int32) := ⟨_, rfl⟩
                have h := nm_a ev74 h
                refine lv_iinc (v := v74) (lv' := [(2, .int v74), (0, .ref (ad 12 0)), (1, .int x1), (3, .int i5)]) hx hb dX12_findHung_57 hl (k := 2) rfl (by rw [ev74]; rfl) (by decide) rfl (fun ls hl => ?_)
                obtain ⟨v75, ev75⟩ : ∃ y : Int32, y = i5 + (1 : Int32) := ⟨_, rfl⟩
                have h := nm_a ev75 h
                refine lv_iinc (v := v75) (lv' := [(3, .int v75), (2, .int v74), (0, .ref (ad 12 0)), (1, .int x1)]) hx hb dX12_findHung_60 hl (k := 3) rfl (by rw [ev75]; rfl) (by decide) rfl (fun ls hl => ?_)
                refine lv_goto (tgt := 8) hx hb dX12_findHung_63 (by decide) ?_
                exact ih3 v74 v75 M73 _ _ _ hW hS (lv_sub hl [2, 3, 1, 0] rfl) h
              · have h := sh_f c72 h
                refine lv_goto (tgt := 60) hx hb dX12_findHung_47 (by decide) ?_
                obtain ⟨v76, ev76⟩ : ∃ y : Int32, y = i5 + (1 : Int32) := ⟨_, rfl⟩
                have h := nm_a ev76 h
                refine lv_iinc (v := v76) (lv' := [(3, .int v76), (0, .ref (ad 12 0)), (1, .int x1), (2, .int i4)]) hx hb dX12_findHung_60 hl (k := 3) rfl (by rw [ev76]; rfl) (by decide) rfl (fun ls hl => ?_)
                refine lv_goto (tgt := 8) hx hb dX12_findHung_63 (by decide) ?_
                exact ih3 i4 v76 M6 _ _ _ hW hS (lv_sub hl [1, 2, 3, 0] rfl) h
  exact L3 FU (0 : Int32) (0 : Int32) M2 _ _ _ hW hS (lv_sub hl [2, 3, 1, 0] rfl) h
def fX12_hangs (x1 : Int32) (M0 : Mem) : Option (Int32 × Mem) :=
  nm (fX12_isStone x1 M0) fun b1 => if b1 = 0 then (some ((-1 : Int32), M0)) else (ix x1 64 <| if (mgI M0 5000 0 x1.toNatClampNeg) = (3 : Int32) then (bE (fX12_findHung x1 M0) fun g4 M5 => if 0 ≤ (lg_cmp g4 (0 : Int64)) then (bd (fX12_bitsOf g4) fun b7 => some (b7, M5)) else (some ((-2 : Int32), M5))) else (some ((-1 : Int32), M0)))
set_option maxHeartbeats 4000000 in
set_option maxRecDepth 100000 in
theorem mX12_hangs {l : Launch} {D : va_G} {cy : Nat → ClassId} {A : Nat → Prop} {Z : State → Heap → Prop} {ad : Nat → Nat → Nat} (hZk : ZOK A Z) (x1 : Int32) (M0 : Mem) (r : Int32) (M' : Mem) (h : fX12_hangs x1 M0 = some (r, M')) : Met l yX12_hangs (wt yX12_hangs cX12_hangs 4 (some .int)) (rm 4 105) (CPre D cy A Z cnM ad M0 [.ref (ad 12 0), .int x1]) (QI D cy A cnM ad r M') 0 0 A := by
  refine tb_start [.ref (ad 12 0), .int x1] [(0, .ref (ad 12 0)), (1, .int x1)] RX12 rfl (by decide +kernel) (Nat.le_of_ble_eq_true rfl) rfl (fun p e s m args below meth c hx hb hr hml hown hts hlk hW hK hZ ls hl => ?_)
  have hS : va_S A s.heap s.heap [] := va_S.rf
  unfold fX12_hangs at h
  refine lv_aload_n hx hb dX12_hangs_0 rfl (lv_at hl 0 rfl) ?_
  refine lv_iload_n hx hb dX12_hangs_1 rfl (lv_at hl 1 rfl) ?_
  refine tb_cVZ hZk hx hb hml hown hts hK hZ hW hS [.int x1] (mX12_isStone (l := l) hZk x1 M0 (fX12_isStone x1 M0) rfl) pmX12_isStone tw1415 (Wd.recv hK hW (t := 12) (by decide) cz12 (C := RX12) (T := TX12) (N := 58) rfl) ⟨Nat.le_of_ble_eq_true rfl, Nat.le_of_ble_eq_true rfl⟩ rfl hl.1 (Nat.le_of_ble_eq_true rfl) ⟨Nat.le_refl _, Nat.le_refl _⟩ rfl dX12_hangs_2 (fun H locs hW hS hzz => ?_)
  refine lv_topi (fun b1 eb1 => ?_)
  have h := nm_a eb1 h
  have hzb1 : b1 = 0 ∨ b1 = 1 := by rw [eb1]; exact hzz
  refine lv_if_eq (tgt := 18) hx hb dX12_hangs_5 (by decide) (fun c2 => ?_) (fun c2 => ?_)
  · have h := sh_t c2 h
    refine lv_iconst (v := (-1 : Int32)) hx hb dX12_hangs_18 (by decide) ?_
    exact tb_iretE h hx hb hr hS hW hlk dX12_hangs_19
  · have h := sh_f c2 h
    refine lv_aload_n hx hb dX12_hangs_8 rfl (lv_at hl 0 rfl) ?_
    refine gtX12_7 hx hb hts hown hK hW cz12 dX12_hangs_9 ?_
    refine lv_iload_n hx hb dX12_hangs_12 rfl (lv_at hl 1 rfl) ?_
    obtain ⟨hj, h⟩ := ix_a h
    refine al50 hx hb hK hW cz50 hj dX12_hangs_13 ?_
    refine lv_iconst (v := (3 : Int32)) hx hb dX12_hangs_14 (by decide) ?_
    refine lv_icmp_eq (tgt := 20) hx hb dX12_hangs_15 (by decide) (fun c3 => ?_) (fun c3 => ?_)
    · have h := sh_t c3 h
      refine lv_aload_n hx hb dX12_hangs_20 rfl (lv_at hl 0 rfl) ?_
      refine lv_iload_n hx hb dX12_hangs_21 rfl (lv_at hl 1 rfl) ?_
      obtain ⟨g4, M5, hcg4, h⟩ := bE_a h
      refine tb_cVL hZk hx hb hml hown hts hK hZ hW hS [.int x1] (mX12_findHung (l := l) hZk x1 M0 g4 M5 hcg4) pmX12_findHung tw1540 (Wd.recv hK hW (t := 12) (by decide) cz12 (C := RX12) (T := TX12) (N := 58) rfl) ⟨Nat.le_of_ble_eq_true rfl, Nat.le_of_ble_eq_true rfl⟩ rfl hl.1 (Nat.le_of_ble_eq_true rfl) ⟨Nat.le_refl _, Nat.le_refl _⟩ rfl dX12_hangs_22 (fun H locs hW hS => ?_)
      refine lv_lstore_n (lv' := [(2, .long g4), (0, .ref (ad 12 0)), (1, .int x1)]) hx hb dX12_hangs_25 rfl hl (by decide) rfl (fun ls hl => ?_)
      refine lv_lload_n hx hb dX12_hangs_26 rfl (lv_at hl 0 rfl) ?_
      refine lv_lconst (v := (0 : Int64)) hx hb dX12_hangs_27 (by decide) ?_
      refine W.lcmp hx hb dX12_hangs_28 ?_
      refine lv_if_ge (tgt := 37) hx hb dX12_hangs_29 (by decide) (fun c6 => ?_) (fun c6 => ?_)
      · have h := sh_t c6 h
        refine lv_lload_n hx hb dX12_hangs_37 rfl (lv_at hl 0 rfl) ?_
        obtain ⟨b7, hcb7, h⟩ := bd_a h
        refine tb_cSI hZk hx hb hml hown hts hK hZ hW hS [.long g4] (mX12_bitsOf (l := l) hZk g4 M5 b7 hcb7) pmX12_bitsOf tw1472 ⟨Nat.le_of_ble_eq_true rfl, Nat.le_of_ble_eq_true rfl⟩ rfl hl.1 (Nat.le_of_ble_eq_true rfl) ⟨Nat.le_refl _, Nat.le_refl _⟩ rfl dX12_hangs_38 (fun H locs hW hS => ?_)
        exact tb_iretE h hx hb hr hS hW hlk dX12_hangs_41
      · have h := sh_f c6 h
        refine lv_bipush (v := (-2 : Int32)) hx hb dX12_hangs_32 (by decide) ?_
        refine lv_goto (tgt := 41) hx hb dX12_hangs_34 (by decide) ?_
        exact tb_iretE h hx hb hr hS hW hlk dX12_hangs_41
    · have h := sh_f c3 h
      refine lv_iconst (v := (-1 : Int32)) hx hb dX12_hangs_18 (by decide) ?_
      exact tb_iretE h hx hb hr hS hW hlk dX12_hangs_19
def fX12_hung (x1 : Int32) (M0 : Mem) : Option (Int64 × Mem) :=
  nm (fX12_isStone x1 M0) fun b1 => if b1 = 0 then (some ((-1 : Int64), M0)) else (ix x1 64 <| if (mgI M0 5000 0 x1.toNatClampNeg) = (3 : Int32) then (bE (fX12_findHung x1 M0) fun g4 M5 => some (g4, M5)) else (some ((-1 : Int64), M0)))
set_option maxHeartbeats 4000000 in
set_option maxRecDepth 100000 in
theorem mX12_hung {l : Launch} {D : va_G} {cy : Nat → ClassId} {A : Nat → Prop} {Z : State → Heap → Prop} {ad : Nat → Nat → Nat} (hZk : ZOK A Z) (x1 : Int32) (M0 : Mem) (r : Int64) (M' : Mem) (h : fX12_hung x1 M0 = some (r, M')) : Met l yX12_hung (wt yX12_hung cX12_hung 2 (some .long)) (rm 4 105) (CPre D cy A Z cnM ad M0 [.ref (ad 12 0), .int x1]) (QL D cy A cnM ad r M') 0 0 A := by
  refine tb_start [.ref (ad 12 0), .int x1] [(0, .ref (ad 12 0)), (1, .int x1)] RX12 rfl (by decide +kernel) (Nat.le_of_ble_eq_true rfl) rfl (fun p e s m args below meth c hx hb hr hml hown hts hlk hW hK hZ ls hl => ?_)
  have hS : va_S A s.heap s.heap [] := va_S.rf
  unfold fX12_hung at h
  refine lv_aload_n hx hb dX12_hung_0 rfl (lv_at hl 0 rfl) ?_
  refine lv_iload_n hx hb dX12_hung_1 rfl (lv_at hl 1 rfl) ?_
  refine tb_cVZ hZk hx hb hml hown hts hK hZ hW hS [.int x1] (mX12_isStone (l := l) hZk x1 M0 (fX12_isStone x1 M0) rfl) pmX12_isStone tw1415 (Wd.recv hK hW (t := 12) (by decide) cz12 (C := RX12) (T := TX12) (N := 58) rfl) ⟨Nat.le_of_ble_eq_true rfl, Nat.le_of_ble_eq_true rfl⟩ rfl hl.1 (Nat.le_of_ble_eq_true rfl) ⟨Nat.le_refl _, Nat.le_refl _⟩ rfl dX12_hung_2 (fun H locs hW hS hzz => ?_)
  refine lv_topi (fun b1 eb1 => ?_)
  have h := nm_a eb1 h
  have hzb1 : b1 = 0 ∨ b1 = 1 := by rw [eb1]; exact hzz
  refine lv_if_eq (tgt := 26) hx hb dX12_hung_5 (by decide) (fun c2 => ?_) (fun c2 => ?_)
  · have h := sh_t c2 h
    refine lv_ldc2 hx hb hown (hts _ tw1553) dX12_hung_26 ?_
    exact tb_lretE h hx hb hr hS hW hlk dX12_hung_29
  · have h := sh_f c2 h
    refine lv_aload_n hx hb dX12_hung_8 rfl (lv_at hl 0 rfl) ?_
    refine gtX12_7 hx hb hts hown hK hW cz12 dX12_hung_9 ?_
    refine lv_iload_n hx hb dX12_hung_12 rfl (lv_at hl 1 rfl) ?_
    obtain ⟨hj, h⟩ := ix_a h
    refine al50 hx hb hK hW cz50 hj dX12_hung_13 ?_
    refine lv_iconst (v := (3 : Int32)) hx hb dX12_hung_14 (by decide) ?_
    refine lv_icmp_ne (tgt := 26) hx hb dX12_hung_15 (by decide) (fun c3 => ?_) (fun c3 => ?_)
    · have h := sh_f c3 h
      refine lv_ldc2 hx hb hown (hts _ tw1553) dX12_hung_26 ?_
      exact tb_lretE h hx hb hr hS hW hlk dX12_hung_29
    · have h := sh_t c3 h
      refine lv_aload_n hx hb dX12_hung_18 rfl (lv_at hl 0 rfl) ?_
      refine lv_iload_n hx hb dX12_hung_19 rfl (lv_at hl 1 rfl) ?_
      obtain ⟨g4, M5, hcg4, h⟩ := bE_a h
      refine tb_cVL hZk hx hb hml hown hts hK hZ hW hS [.int x1] (mX12_findHung (l := l) hZk x1 M0 g4 M5 hcg4) pmX12_findHung tw1540 (Wd.recv hK hW (t := 12) (by decide) cz12 (C := RX12) (T := TX12) (N := 58) rfl) ⟨Nat.le_of_ble_eq_true rfl, Nat.le_of_ble_eq_true rfl⟩ rfl hl.1 (Nat.le_of_ble_eq_true rfl) ⟨Nat.le_refl _, Nat.le_refl _⟩ rfl dX12_hung_20 (fun H locs hW hS => ?_)
      refine lv_goto (tgt := 29) hx hb dX12_hung_23 (by decide) ?_
      exact tb_lretE h hx hb hr hS hW hlk dX12_hung_29
def fX12_feed_b27 (x1 : Int32) (x2 : Int32) (k4 : Int32 → Mem → Option (Int32 × Mem)) (i5 : Int32) (M6 : Mem) : Option (Int32 × Mem) :=
  if x1 ≤ i5 then (some (mgI M6 1233 0 0, M6)) else (nm ((x2 >>> (((8 : Int32) * i5) &&& 31)).toInt8.toInt32) fun v8 => ix (mgI M6 1233 0 0) 120 <| nm (msI M6 7600 0 ((mgI M6 1233 0 0).toNatClampNeg) (vp_nar .byte v8)) fun M9 => nm ((mgI M9 1233 0 0) + (1 : Int32)) fun v10 => nm (msI M9 1233 0 0 v10) fun M11 => nm (i5 + (1 : Int32)) fun v12 => k4 v12 M11)
def fX12_feed_l27 (x1 : Int32) (x2 : Int32) : Nat → Int32 → Mem → Option (Int32 × Mem)
  | 0, _, _ => none
  | n + 1, i5, M6 => fX12_feed_b27 x1 x2 (fX12_feed_l27 x1 x2 n) i5 M6
def fX12_feed (x1 : Int32) (x2 : Int32) (M0 : Mem) : Option (Int32 × Mem) :=
  nm (fX12_in x1 (1 : Int32) (4 : Int32)) fun b1 => if b1 = 0 then (some ((-1 : Int32), M0)) else (if ((mgI M0 1233 0 0) + x1) ≤ (120 : Int32) then (fX12_feed_l27 x1 x2 FU (0 : Int32) M0) else (some ((-3 : Int32), M0)))
set_option maxHeartbeats 4000000 in
set_option maxRecDepth 100000 in
theorem mX12_feed {l : Launch} {D : va_G} {cy : Nat → ClassId} {A : Nat → Prop} {Z : State → Heap → Prop} {ad : Nat → Nat → Nat} (hZk : ZOK A Z) (x1 : Int32) (x2 : Int32) (M0 : Mem) (r : Int32) (M' : Mem) (h : fX12_feed x1 x2 M0 = some (r, M')) : Met l yX12_feed (wt yX12_feed cX12_feed 4 (some .int)) (rm 1 22) (CPre D cy A Z cnM ad M0 [.ref (ad 12 0), .int x1, .int x2]) (QI D cy A cnM ad r M') 0 0 A := by
  refine tb_start [.ref (ad 12 0), .int x1, .int x2] [(0, .ref (ad 12 0)), (1, .int x1), (2, .int x2)] RX12 rfl (by decide +kernel) (Nat.le_of_ble_eq_true rfl) rfl (fun p e s m args below meth c hx hb hr hml hown hts hlk hW hK hZ ls hl => ?_)
  have hS : va_S A s.heap s.heap [] := va_S.rf
  unfold fX12_feed at h
  refine lv_iload_n hx hb dX12_feed_0 rfl (lv_at hl 1 rfl) ?_
  refine lv_iconst (v := (1 : Int32)) hx hb dX12_feed_1 (by decide) ?_
  refine lv_iconst (v := (4 : Int32)) hx hb dX12_feed_2 (by decide) ?_
  refine tb_cSZ hZk hx hb hml hown hts hK hZ hW hS [.int x1, .int (1 : Int32), .int (4 : Int32)] (mX12_in (l := l) hZk x1 (1 : Int32) (4 : Int32) M0 (fX12_in x1 (1 : Int32) (4 : Int32)) rfl) pmX12_in tw1401 ⟨Nat.le_of_ble_eq_true rfl, Nat.le_of_ble_eq_true rfl⟩ rfl hl.1 (Nat.le_of_ble_eq_true rfl) ⟨Nat.le_refl _, Nat.le_refl _⟩ rfl dX12_feed_3 (fun H locs hW hS hzz => ?_)
  refine lv_topi (fun b1 eb1 => ?_)
  have h := nm_a eb1 h
  have hzb1 : b1 = 0 ∨ b1 = 1 := by rw [eb1]; exact hzz
  refine lv_if_ne (tgt := 11) hx hb dX12_feed_6 (by decide) (fun c2 => ?_) (fun c2 => ?_)
  · have h := sh_f c2 h
    refine lv_aload_n hx hb dX12_feed_11 rfl (lv_at hl 0 rfl) ?_
    refine gtX12_256 hx hb hts hown hK hW cz12 dX12_feed_12 ?_
    refine lv_iload_n hx hb dX12_feed_15 rfl (lv_at hl 1 rfl) ?_
    refine lv_iadd hx hb dX12_feed_16 ?_
    refine lv_bipush (v := (120 : Int32)) hx hb dX12_feed_17 (by decide) ?_
    refine lv_icmp_le (tgt := 25) hx hb dX12_feed_19 (by decide) (fun c3 => ?_) (fun c3 => ?_)
    · have h := sh_t c3 h
      refine lv_iconst (v := (0 : Int32)) hx hb dX12_feed_25 (by decide) ?_
      refine lv_istore_n (lv' := [(3, .int (0 : Int32)), (0, .ref (ad 12 0)), (1, .int x1), (2, .int x2)]) hx hb dX12_feed_26 rfl hl (by decide) rfl (fun ls hl => ?_)
      have L4 : ∀ (n4 : Nat) (i5 : Int32) (M6 : Mem) (H : Heap) (locs : List Loc) (ls : Array Slot), Wd D cy A cnM ad M6 H → va_S A s.heap H locs → lv_has ls 4 [(0, .ref (ad 12 0)), (1, .int x1), (2, .int x2), (3, .int i5)] → fX12_feed_l27 x1 x2 n4 i5 M6 = some (r, M') → W p l e (rm 1 22) s m args below meth c H locs 0 0 (MQ below (QI D cy A cnM ad r M') args s 0 0 A) (F0 m 27 ls []) := by
        intro n4
        induction n4 with
        | zero => intro i5 M6 H locs ls hW hS hl h; cases h
        | succ n4 ih4 =>
          intro i5 M6 H locs ls hW hS hl h
          unfold fX12_feed_l27 fX12_feed_b27 at h
          refine lv_iload_n hx hb dX12_feed_27 rfl (lv_at hl 3 rfl) ?_
          refine lv_iload_n hx hb dX12_feed_28 rfl (lv_at hl 1 rfl) ?_
          refine lv_icmp_ge (tgt := 64) hx hb dX12_feed_29 (by decide) (fun c7 => ?_) (fun c7 => ?_)
          · have h := sh_t c7 h
            refine lv_aload_n hx hb dX12_feed_64 rfl (lv_at hl 0 rfl) ?_
            refine gtX12_256 hx hb hts hown hK hW cz12 dX12_feed_65 ?_
            exact tb_iretE h hx hb hr hS hW hlk dX12_feed_68
          · have h := sh_f c7 h
            refine lv_aload_n hx hb dX12_feed_32 rfl (lv_at hl 0 rfl) ?_
            refine gtX12_90 hx hb hts hown hK hW cz12 dX12_feed_33 ?_
            refine lv_aload_n hx hb dX12_feed_36 rfl (lv_at hl 0 rfl) ?_
            refine gtX12_256 hx hb hts hown hK hW cz12 dX12_feed_37 ?_
            refine lv_iload_n hx hb dX12_feed_40 rfl (lv_at hl 2 rfl) ?_
            refine lv_bipush (v := (8 : Int32)) hx hb dX12_feed_41 (by decide) ?_
            refine lv_iload_n hx hb dX12_feed_43 rfl (lv_at hl 3 rfl) ?_
            refine lv_imul hx hb dX12_feed_44 ?_
            refine lv_ishr hx hb dX12_feed_45 ?_
            refine lv_i2b hx hb dX12_feed_46 rfl ?_
            refine lv_topi (fun v8 ev8 => ?_)
            have h := nm_a ev8 h
            obtain ⟨hj, h⟩ := ix_a h
            refine as76 hx hb hK hW hS cz76 hj dX12_feed_47 (fun H locs hW hS => ?_)
            obtain ⟨M9, eM9⟩ : ∃ y, y = msI M6 7600 0 ((mgI M6 1233 0 0).toNatClampNeg) (vp_nar .byte v8) := ⟨_, rfl⟩
            have h := nm_a eM9 h
            rw [← eM9] at hW
            refine lv_aload_n hx hb dX12_feed_48 rfl (lv_at hl 0 rfl) ?_
            refine lv_dup hx hb dX12_feed_49 rfl ?_
            refine gtX12_256 hx hb hts hown hK hW cz12 dX12_feed_50 ?_
            refine lv_iconst (v := (1 : Int32)) hx hb dX12_feed_53 (by decide) ?_
            refine lv_iadd hx hb dX12_feed_54 ?_
            refine lv_topi (fun v10 ev10 => ?_)
            have h := nm_a ev10 h
            refine ptX12_256 hx hb hts hown hK hW hS cz12 dX12_feed_55 (fun H locs hW hS => ?_)
            obtain ⟨M11, eM11⟩ : ∃ y, y = msI M9 1233 0 0 v10 := ⟨_, rfl⟩
            have h := nm_a eM11 h
            rw [← eM11] at hW
            obtain ⟨v12, ev12⟩ : ∃ y : Int32, y = i5 + (1 : Int32) := ⟨_, rfl⟩
            have h := nm_a ev12 h
            refine lv_iinc (v := v12) (lv' := [(3, .int v12), (0, .ref (ad 12 0)), (1, .int x1), (2, .int x2)]) hx hb dX12_feed_58 hl (k := 3) rfl (by rw [ev12]; rfl) (by decide) rfl (fun ls hl => ?_)
            refine lv_goto (tgt := 27) hx hb dX12_feed_61 (by decide) ?_
            exact ih4 v12 M11 _ _ _ hW hS (lv_sub hl [1, 2, 3, 0] rfl) h
      exact L4 FU (0 : Int32) M0 _ _ _ hW hS (lv_sub hl [1, 2, 3, 0] rfl) h
    · have h := sh_f c3 h
      refine lv_bipush (v := (-3 : Int32)) hx hb dX12_feed_22 (by decide) ?_
      exact tb_iretE h hx hb hr hS hW hlk dX12_feed_24
  · have h := sh_t c2 h
    refine lv_iconst (v := (-1 : Int32)) hx hb dX12_feed_9 (by decide) ?_
    exact tb_iretE h hx hb hr hS hW hlk dX12_feed_10
def fX12_look (M0 : Mem) : Option Int32 :=
  if (mgI M0 1233 0 0) ≤ (mgI M0 1234 0 0) then (some (-1 : Int32)) else (ix (mgI M0 1234 0 0) 120 <| some (mgI M0 7600 0 (mgI M0 1234 0 0).toNatClampNeg))
set_option maxHeartbeats 4000000 in
set_option maxRecDepth 100000 in
theorem mX12_look {l : Launch} {D : va_G} {cy : Nat → ClassId} {A : Nat → Prop} {Z : State → Heap → Prop} {ad : Nat → Nat → Nat} (hZk : ZOK A Z) (M0 : Mem) (r : Int32) (h : fX12_look M0 = some r) : Met l yX12_look (wt yX12_look cX12_look 1 (some .int)) (rm 0 0) (CPre D cy A Z cnM ad M0 [.ref (ad 12 0)]) (QI D cy A cnM ad r M0) 0 0 A := by
  refine tb_start [.ref (ad 12 0)] [(0, .ref (ad 12 0))] RX12 rfl (by decide +kernel) (Nat.le_of_ble_eq_true rfl) rfl (fun p e s m args below meth c hx hb hr hml hown hts hlk hW hK hZ ls hl => ?_)
  have hS : va_S A s.heap s.heap [] := va_S.rf
  unfold fX12_look at h
  refine lv_aload_n hx hb dX12_look_0 rfl (lv_at hl 0 rfl) ?_
  refine gtX12_259 hx hb hts hown hK hW cz12 dX12_look_1 ?_
  refine lv_aload_n hx hb dX12_look_4 rfl (lv_at hl 0 rfl) ?_
  refine gtX12_256 hx hb hts hown hK hW cz12 dX12_look_5 ?_
  refine lv_icmp_ge (tgt := 23) hx hb dX12_look_8 (by decide) (fun c1 => ?_) (fun c1 => ?_)
  · have h := sh_t c1 h
    refine lv_iconst (v := (-1 : Int32)) hx hb dX12_look_23 (by decide) ?_
    exact tb_iretO h hx hb hr hS hW hlk dX12_look_24
  · have h := sh_f c1 h
    refine lv_aload_n hx hb dX12_look_11 rfl (lv_at hl 0 rfl) ?_
    refine gtX12_90 hx hb hts hown hK hW cz12 dX12_look_12 ?_
    refine lv_aload_n hx hb dX12_look_15 rfl (lv_at hl 0 rfl) ?_
    refine gtX12_259 hx hb hts hown hK hW cz12 dX12_look_16 ?_
    obtain ⟨hj, h⟩ := ix_a h
    refine al76 hx hb hK hW cz76 hj dX12_look_19 ?_
    refine lv_goto (tgt := 24) hx hb dX12_look_20 (by decide) ?_
    exact tb_iretO h hx hb hr hS hW hlk dX12_look_24
def fX12_wrong (M0 : Mem) : Option (Unit × Mem) :=
  if 0 ≤ (mgI M0 1235 0 0) then (some ((), M0)) else (nm (mgI M0 1234 0 0) fun v2 => nm (msI M0 1235 0 0 v2) fun M3 => some ((), M3))
set_option maxHeartbeats 4000000 in
set_option maxRecDepth 100000 in
theorem mX12_wrong {l : Launch} {D : va_G} {cy : Nat → ClassId} {A : Nat → Prop} {Z : State → Heap → Prop} {ad : Nat → Nat → Nat} (hZk : ZOK A Z) (M0 : Mem) (r : Unit) (M' : Mem) (h : fX12_wrong M0 = some (r, M')) : Met l yX12_wrong (wt yX12_wrong cX12_wrong 1 none) (rm 0 0) (CPre D cy A Z cnM ad M0 [.ref (ad 12 0)]) (QV D cy A cnM ad r M') 0 0 A := by
  refine tb_start [.ref (ad 12 0)] [(0, .ref (ad 12 0))] RX12 rfl (by decide +kernel) (Nat.le_of_ble_eq_true rfl) rfl (fun p e s m args below meth c hx hb hr hml hown hts hlk hW hK hZ ls hl => ?_)
  have hS : va_S A s.heap s.heap [] := va_S.rf
  unfold fX12_wrong at h
  refine lv_aload_n hx hb dX12_wrong_0 rfl (lv_at hl 0 rfl) ?_
  refine gtX12_262 hx hb hts hown hK hW cz12 dX12_wrong_1 ?_
  refine lv_if_ge (tgt := 15) hx hb dX12_wrong_4 (by decide) (fun c1 => ?_) (fun c1 => ?_)
  · have h := sh_t c1 h
    exact tb_vretE h hx hb hr hS hW hlk dX12_wrong_15
  · have h := sh_f c1 h
    refine lv_aload_n hx hb dX12_wrong_7 rfl (lv_at hl 0 rfl) ?_
    refine lv_aload_n hx hb dX12_wrong_8 rfl (lv_at hl 0 rfl) ?_
    refine gtX12_259 hx hb hts hown hK hW cz12 dX12_wrong_9 ?_
    refine lv_topi (fun v2 ev2 => ?_)
    have h := nm_a ev2 h
    refine ptX12_262 hx hb hts hown hK hW hS cz12 dX12_wrong_12 (fun H locs hW hS => ?_)
    obtain ⟨M3, eM3⟩ : ∃ y, y = msI M0 1235 0 0 v2 := ⟨_, rfl⟩
    have h := nm_a eM3 h
    rw [← eM3] at hW
    exact tb_vretE h hx hb hr hS hW hlk dX12_wrong_15
def fX12_lay (x1 : Int32) (x2 : Int32) (M0 : Mem) : Option (Unit × Mem) :=
  nm x1.toInt8.toInt32 fun v1 => ix ((260 : Int32) + (mgI M0 1237 0 0)) 390 <| nm (msI M0 7700 0 (((260 : Int32) + (mgI M0 1237 0 0)).toNatClampNeg) (vp_nar .byte v1)) fun M2 => ix ((260 : Int32) + (mgI M2 1237 0 0)) 390 <| nm (msI M2 7800 0 (((260 : Int32) + (mgI M2 1237 0 0)).toNatClampNeg) x2) fun M3 => nm ((mgI M3 1237 0 0) + (1 : Int32)) fun v4 => nm (msI M3 1237 0 0 v4) fun M5 => some ((), M5)
set_option maxHeartbeats 4000000 in
set_option maxRecDepth 100000 in
theorem mX12_lay {l : Launch} {D : va_G} {cy : Nat → ClassId} {A : Nat → Prop} {Z : State → Heap → Prop} {ad : Nat → Nat → Nat} (hZk : ZOK A Z) (x1 : Int32) (x2 : Int32) (M0 : Mem) (r : Unit) (M' : Mem) (h : fX12_lay x1 x2 M0 = some (r, M')) : Met l yX12_lay (wt yX12_lay cX12_lay 3 none) (rm 0 0) (CPre D cy A Z cnM ad M0 [.ref (ad 12 0), .int x1, .int x2]) (QV D cy A cnM ad r M') 0 0 A := by
  refine tb_start [.ref (ad 12 0), .int x1, .int x2] [(0, .ref (ad 12 0)), (1, .int x1), (2, .int x2)] RX12 rfl (by decide +kernel) (Nat.le_of_ble_eq_true rfl) rfl (fun p e s m args below meth c hx hb hr hml hown hts hlk hW hK hZ ls hl => ?_)
  have hS : va_S A s.heap s.heap [] := va_S.rf
  unfold fX12_lay at h
  refine lv_aload_n hx hb dX12_lay_0 rfl (lv_at hl 0 rfl) ?_
  refine gtX12_94 hx hb hts hown hK hW cz12 dX12_lay_1 ?_
  refine lv_sipush (v := (260 : Int32)) hx hb dX12_lay_4 (by decide) ?_
  refine lv_aload_n hx hb dX12_lay_7 rfl (lv_at hl 0 rfl) ?_
  refine gtX12_265 hx hb hts hown hK hW cz12 dX12_lay_8 ?_
  refine lv_iadd hx hb dX12_lay_11 ?_
  refine lv_iload_n hx hb dX12_lay_12 rfl (lv_at hl 1 rfl) ?_
  refine lv_i2b hx hb dX12_lay_13 rfl ?_
  refine lv_topi (fun v1 ev1 => ?_)
  have h := nm_a ev1 h
  obtain ⟨hj, h⟩ := ix_a h
  refine as77 hx hb hK hW hS cz77 hj dX12_lay_14 (fun H locs hW hS => ?_)
  obtain ⟨M2, eM2⟩ : ∃ y, y = msI M0 7700 0 (((260 : Int32) + (mgI M0 1237 0 0)).toNatClampNeg) (vp_nar .byte v1) := ⟨_, rfl⟩
  have h := nm_a eM2 h
  rw [← eM2] at hW
  refine lv_aload_n hx hb dX12_lay_15 rfl (lv_at hl 0 rfl) ?_
  refine gtX12_97 hx hb hts hown hK hW cz12 dX12_lay_16 ?_
  refine lv_sipush (v := (260 : Int32)) hx hb dX12_lay_19 (by decide) ?_
  refine lv_aload_n hx hb dX12_lay_22 rfl (lv_at hl 0 rfl) ?_
  refine gtX12_265 hx hb hts hown hK hW cz12 dX12_lay_23 ?_
  refine lv_iadd hx hb dX12_lay_26 ?_
  refine lv_iload_n hx hb dX12_lay_27 rfl (lv_at hl 2 rfl) ?_
  obtain ⟨hj, h⟩ := ix_a h
  refine as78 hx hb hK hW hS cz78 hj dX12_lay_28 (fun H locs hW hS => ?_)
  obtain ⟨M3, eM3⟩ : ∃ y, y = msI M2 7800 0 (((260 : Int32) + (mgI M2 1237 0 0)).toNatClampNeg) x2 := ⟨_, rfl⟩
  have h := nm_a eM3 h
  rw [← eM3] at hW
  refine lv_aload_n hx hb dX12_lay_29 rfl (lv_at hl 0 rfl) ?_
  refine lv_dup hx hb dX12_lay_30 rfl ?_
  refine gtX12_265 hx hb hts hown hK hW cz12 dX12_lay_31 ?_
  refine lv_iconst (v := (1 : Int32)) hx hb dX12_lay_34 (by decide) ?_
  refine lv_iadd hx hb dX12_lay_35 ?_
  refine lv_topi (fun v4 ev4 => ?_)
  have h := nm_a ev4 h
  refine ptX12_265 hx hb hts hown hK hW hS cz12 dX12_lay_36 (fun H locs hW hS => ?_)
  obtain ⟨M5, eM5⟩ : ∃ y, y = msI M3 1237 0 0 v4 := ⟨_, rfl⟩
  have h := nm_a eM5 h
  rw [← eM5] at hW
  exact tb_vretE h hx hb hr hS hW hlk dX12_lay_39
def fX12_nameOf (x0 : Int32) : Int32 :=
  if x0 = (99 : Int32) then ((4 : Int32)) else if x0 = (100 : Int32) then ((-1 : Int32)) else if x0 = (101 : Int32) then ((-1 : Int32)) else if x0 = (102 : Int32) then ((-1 : Int32)) else if x0 = (103 : Int32) then ((-1 : Int32)) else if x0 = (104 : Int32) then ((5 : Int32)) else if x0 = (105 : Int32) then ((-1 : Int32)) else if x0 = (106 : Int32) then ((-1 : Int32)) else if x0 = (107 : Int32) then ((-1 : Int32)) else if x0 = (108 : Int32) then ((6 : Int32)) else if x0 = (109 : Int32) then ((0 : Int32)) else if x0 = (110 : Int32) then ((3 : Int32)) else if x0 = (111 : Int32) then ((-1 : Int32)) else if x0 = (112 : Int32) then ((-1 : Int32)) else if x0 = (113 : Int32) then ((-1 : Int32)) else if x0 = (114 : Int32) then ((-1 : Int32)) else if x0 = (115 : Int32) then ((2 : Int32)) else if x0 = (116 : Int32) then ((-1 : Int32)) else if x0 = (117 : Int32) then ((-1 : Int32)) else if x0 = (118 : Int32) then ((-1 : Int32)) else if x0 = (119 : Int32) then ((1 : Int32)) else (-1 : Int32)
set_option maxHeartbeats 4000000 in
set_option maxRecDepth 100000 in
theorem mX12_nameOf {l : Launch} {D : va_G} {cy : Nat → ClassId} {A : Nat → Prop} {Z : State → Heap → Prop} {ad : Nat → Nat → Nat} (hZk : ZOK A Z) (x0 : Int32) (M0 : Mem) (r : Int32) (h : fX12_nameOf x0 = r) : Met l yX12_nameOf (wt yX12_nameOf cX12_nameOf 1 (some .int)) (rm 0 0) (CPre D cy A Z cnM ad M0 [.int x0]) (QI D cy A cnM ad r M0) 0 0 A := by
  refine tb_start [.int x0] [(0, .int x0)] RX12 rfl (by decide +kernel) (Nat.le_of_ble_eq_true rfl) rfl (fun p e s m args below meth c hx hb hr hml hown hts hlk hW hK hZ ls hl => ?_)
  have hS : va_S A s.heap s.heap [] := va_S.rf
  unfold fX12_nameOf at h
  refine lv_iload_n hx hb dX12_nameOf_0 rfl (lv_at hl 0 rfl) ?_
  by_cases c1 : x0 = (99 : Int32)
  · have h := sh_t c1 h
    refine lv_tableIn (off := 107) (tgt := 108) hx hb dX12_nameOf_1 (by rw [c1]; decide) (by rw [c1]; decide) (by rw [c1]; rfl) (by decide) ?_
    refine lv_iconst (v := (4 : Int32)) hx hb dX12_nameOf_108 (by decide) ?_
    exact tb_iretP h hx hb hr hS hW hlk dX12_nameOf_109
  · have h := sh_f c1 h
    by_cases c2 : x0 = (100 : Int32)
    · have h := sh_t c2 h
      refine lv_tableIn (off := 114) (tgt := 115) hx hb dX12_nameOf_1 (by rw [c2]; decide) (by rw [c2]; decide) (by rw [c2]; rfl) (by decide) ?_
      refine lv_iconst (v := (-1 : Int32)) hx hb dX12_nameOf_115 (by decide) ?_
      exact tb_iretP h hx hb hr hS hW hlk dX12_nameOf_116
    · have h := sh_f c2 h
      by_cases c3 : x0 = (101 : Int32)
      · have h := sh_t c3 h
        refine lv_tableIn (off := 114) (tgt := 115) hx hb dX12_nameOf_1 (by rw [c3]; decide) (by rw [c3]; decide) (by rw [c3]; rfl) (by decide) ?_
        refine lv_iconst (v := (-1 : Int32)) hx hb dX12_nameOf_115 (by decide) ?_
        exact tb_iretP h hx hb hr hS hW hlk dX12_nameOf_116
      · have h := sh_f c3 h
        by_cases c4 : x0 = (102 : Int32)
        · have h := sh_t c4 h
          refine lv_tableIn (off := 114) (tgt := 115) hx hb dX12_nameOf_1 (by rw [c4]; decide) (by rw [c4]; decide) (by rw [c4]; rfl) (by decide) ?_
          refine lv_iconst (v := (-1 : Int32)) hx hb dX12_nameOf_115 (by decide) ?_
          exact tb_iretP h hx hb hr hS hW hlk dX12_nameOf_116
        · have h := sh_f c4 h
          by_cases c5 : x0 = (103 : Int32)
          · have h := sh_t c5 h
            refine lv_tableIn (off := 114) (tgt := 115) hx hb dX12_nameOf_1 (by rw [c5]; decide) (by rw [c5]; decide) (by rw [c5]; rfl) (by decide) ?_
            refine lv_iconst (v := (-1 : Int32)) hx hb dX12_nameOf_115 (by decide) ?_
            exact tb_iretP h hx hb hr hS hW hlk dX12_nameOf_116
          · have h := sh_f c5 h
            by_cases c6 : x0 = (104 : Int32)
            · have h := sh_t c6 h
              refine lv_tableIn (off := 109) (tgt := 110) hx hb dX12_nameOf_1 (by rw [c6]; decide) (by rw [c6]; decide) (by rw [c6]; rfl) (by decide) ?_
              refine lv_iconst (v := (5 : Int32)) hx hb dX12_nameOf_110 (by decide) ?_
              exact tb_iretP h hx hb hr hS hW hlk dX12_nameOf_111
            · have h := sh_f c6 h
              by_cases c7 : x0 = (105 : Int32)
              · have h := sh_t c7 h
                refine lv_tableIn (off := 114) (tgt := 115) hx hb dX12_nameOf_1 (by rw [c7]; decide) (by rw [c7]; decide) (by rw [c7]; rfl) (by decide) ?_
                refine lv_iconst (v := (-1 : Int32)) hx hb dX12_nameOf_115 (by decide) ?_
                exact tb_iretP h hx hb hr hS hW hlk dX12_nameOf_116
              · have h := sh_f c7 h
                by_cases c8 : x0 = (106 : Int32)
                · have h := sh_t c8 h
                  refine lv_tableIn (off := 114) (tgt := 115) hx hb dX12_nameOf_1 (by rw [c8]; decide) (by rw [c8]; decide) (by rw [c8]; rfl) (by decide) ?_
                  refine lv_iconst (v := (-1 : Int32)) hx hb dX12_nameOf_115 (by decide) ?_
                  exact tb_iretP h hx hb hr hS hW hlk dX12_nameOf_116
                · have h := sh_f c8 h
                  by_cases c9 : x0 = (107 : Int32)
                  · have h := sh_t c9 h
                    refine lv_tableIn (off := 114) (tgt := 115) hx hb dX12_nameOf_1 (by rw [c9]; decide) (by rw [c9]; decide) (by rw [c9]; rfl) (by decide) ?_
                    refine lv_iconst (v := (-1 : Int32)) hx hb dX12_nameOf_115 (by decide) ?_
                    exact tb_iretP h hx hb hr hS hW hlk dX12_nameOf_116
                  · have h := sh_f c9 h
                    by_cases c10 : x0 = (108 : Int32)
                    · have h := sh_t c10 h
                      refine lv_tableIn (off := 111) (tgt := 112) hx hb dX12_nameOf_1 (by rw [c10]; decide) (by rw [c10]; decide) (by rw [c10]; rfl) (by decide) ?_
                      refine lv_bipush (v := (6 : Int32)) hx hb dX12_nameOf_112 (by decide) ?_
                      exact tb_iretP h hx hb hr hS hW hlk dX12_nameOf_114
                    · have h := sh_f c10 h
                      by_cases c11 : x0 = (109 : Int32)
                      · have h := sh_t c11 h
                        refine lv_tableIn (off := 99) (tgt := 100) hx hb dX12_nameOf_1 (by rw [c11]; decide) (by rw [c11]; decide) (by rw [c11]; rfl) (by decide) ?_
                        refine lv_iconst (v := (0 : Int32)) hx hb dX12_nameOf_100 (by decide) ?_
                        exact tb_iretP h hx hb hr hS hW hlk dX12_nameOf_101
                      · have h := sh_f c11 h
                        by_cases c12 : x0 = (110 : Int32)
                        · have h := sh_t c12 h
                          refine lv_tableIn (off := 105) (tgt := 106) hx hb dX12_nameOf_1 (by rw [c12]; decide) (by rw [c12]; decide) (by rw [c12]; rfl) (by decide) ?_
                          refine lv_iconst (v := (3 : Int32)) hx hb dX12_nameOf_106 (by decide) ?_
                          exact tb_iretP h hx hb hr hS hW hlk dX12_nameOf_107
                        · have h := sh_f c12 h
                          by_cases c13 : x0 = (111 : Int32)
                          · have h := sh_t c13 h
                            refine lv_tableIn (off := 114) (tgt := 115) hx hb dX12_nameOf_1 (by rw [c13]; decide) (by rw [c13]; decide) (by rw [c13]; rfl) (by decide) ?_
                            refine lv_iconst (v := (-1 : Int32)) hx hb dX12_nameOf_115 (by decide) ?_
                            exact tb_iretP h hx hb hr hS hW hlk dX12_nameOf_116
                          · have h := sh_f c13 h
                            by_cases c14 : x0 = (112 : Int32)
                            · have h := sh_t c14 h
                              refine lv_tableIn (off := 114) (tgt := 115) hx hb dX12_nameOf_1 (by rw [c14]; decide) (by rw [c14]; decide) (by rw [c14]; rfl) (by decide) ?_
                              refine lv_iconst (v := (-1 : Int32)) hx hb dX12_nameOf_115 (by decide) ?_
                              exact tb_iretP h hx hb hr hS hW hlk dX12_nameOf_116
                            · have h := sh_f c14 h
                              by_cases c15 : x0 = (113 : Int32)
                              · have h := sh_t c15 h
                                refine lv_tableIn (off := 114) (tgt := 115) hx hb dX12_nameOf_1 (by rw [c15]; decide) (by rw [c15]; decide) (by rw [c15]; rfl) (by decide) ?_
                                refine lv_iconst (v := (-1 : Int32)) hx hb dX12_nameOf_115 (by decide) ?_
                                exact tb_iretP h hx hb hr hS hW hlk dX12_nameOf_116
                              · have h := sh_f c15 h
                                by_cases c16 : x0 = (114 : Int32)
                                · have h := sh_t c16 h
                                  refine lv_tableIn (off := 114) (tgt := 115) hx hb dX12_nameOf_1 (by rw [c16]; decide) (by rw [c16]; decide) (by rw [c16]; rfl) (by decide) ?_
                                  refine lv_iconst (v := (-1 : Int32)) hx hb dX12_nameOf_115 (by decide) ?_
                                  exact tb_iretP h hx hb hr hS hW hlk dX12_nameOf_116
                                · have h := sh_f c16 h
                                  by_cases c17 : x0 = (115 : Int32)
                                  · have h := sh_t c17 h
                                    refine lv_tableIn (off := 103) (tgt := 104) hx hb dX12_nameOf_1 (by rw [c17]; decide) (by rw [c17]; decide) (by rw [c17]; rfl) (by decide) ?_
                                    refine lv_iconst (v := (2 : Int32)) hx hb dX12_nameOf_104 (by decide) ?_
                                    exact tb_iretP h hx hb hr hS hW hlk dX12_nameOf_105
                                  · have h := sh_f c17 h
                                    by_cases c18 : x0 = (116 : Int32)
                                    · have h := sh_t c18 h
                                      refine lv_tableIn (off := 114) (tgt := 115) hx hb dX12_nameOf_1 (by rw [c18]; decide) (by rw [c18]; decide) (by rw [c18]; rfl) (by decide) ?_
                                      refine lv_iconst (v := (-1 : Int32)) hx hb dX12_nameOf_115 (by decide) ?_
                                      exact tb_iretP h hx hb hr hS hW hlk dX12_nameOf_116
                                    · have h := sh_f c18 h
                                      by_cases c19 : x0 = (117 : Int32)
                                      · have h := sh_t c19 h
                                        refine lv_tableIn (off := 114) (tgt := 115) hx hb dX12_nameOf_1 (by rw [c19]; decide) (by rw [c19]; decide) (by rw [c19]; rfl) (by decide) ?_
                                        refine lv_iconst (v := (-1 : Int32)) hx hb dX12_nameOf_115 (by decide) ?_
                                        exact tb_iretP h hx hb hr hS hW hlk dX12_nameOf_116
                                      · have h := sh_f c19 h
                                        by_cases c20 : x0 = (118 : Int32)
                                        · have h := sh_t c20 h
                                          refine lv_tableIn (off := 114) (tgt := 115) hx hb dX12_nameOf_1 (by rw [c20]; decide) (by rw [c20]; decide) (by rw [c20]; rfl) (by decide) ?_
                                          refine lv_iconst (v := (-1 : Int32)) hx hb dX12_nameOf_115 (by decide) ?_
                                          exact tb_iretP h hx hb hr hS hW hlk dX12_nameOf_116
                                        · have h := sh_f c20 h
                                          by_cases c21 : x0 = (119 : Int32)
                                          · have h := sh_t c21 h
                                            refine lv_tableIn (off := 101) (tgt := 102) hx hb dX12_nameOf_1 (by rw [c21]; decide) (by rw [c21]; decide) (by rw [c21]; rfl) (by decide) ?_
                                            refine lv_iconst (v := (1 : Int32)) hx hb dX12_nameOf_102 (by decide) ?_
                                            exact tb_iretP h hx hb hr hS hW hlk dX12_nameOf_103
                                          · have h := sh_f c21 h
                                            refine lv_tableOut (tgt := 115) hx hb dX12_nameOf_1 (sw_out x0 (by decide) (fun z h1 h2 => by
                                              rcases (show z = 99 ∨ z = 100 ∨ z = 101 ∨ z = 102 ∨ z = 103 ∨ z = 104 ∨ z = 105 ∨ z = 106 ∨ z = 107 ∨ z = 108 ∨ z = 109 ∨ z = 110 ∨ z = 111 ∨ z = 112 ∨ z = 113 ∨ z = 114 ∨ z = 115 ∨ z = 116 ∨ z = 117 ∨ z = 118 ∨ z = 119 by omega) with rfl | rfl | rfl | rfl | rfl | rfl | rfl | rfl | rfl | rfl | rfl | rfl | rfl | rfl | rfl | rfl | rfl | rfl | rfl | rfl | rfl <;> first | exact fun e => c1 (Int32.toInt_inj.mp (e.trans (by decide))) | exact fun e => c2 (Int32.toInt_inj.mp (e.trans (by decide))) | exact fun e => c3 (Int32.toInt_inj.mp (e.trans (by decide))) | exact fun e => c4 (Int32.toInt_inj.mp (e.trans (by decide))) | exact fun e => c5 (Int32.toInt_inj.mp (e.trans (by decide))) | exact fun e => c6 (Int32.toInt_inj.mp (e.trans (by decide))) | exact fun e => c7 (Int32.toInt_inj.mp (e.trans (by decide))) | exact fun e => c8 (Int32.toInt_inj.mp (e.trans (by decide))) | exact fun e => c9 (Int32.toInt_inj.mp (e.trans (by decide))) | exact fun e => c10 (Int32.toInt_inj.mp (e.trans (by decide))) | exact fun e => c11 (Int32.toInt_inj.mp (e.trans (by decide))) | exact fun e => c12 (Int32.toInt_inj.mp (e.trans (by decide))) | exact fun e => c13 (Int32.toInt_inj.mp (e.trans (by decide))) | exact fun e => c14 (Int32.toInt_inj.mp (e.trans (by decide))) | exact fun e => c15 (Int32.toInt_inj.mp (e.trans (by decide))) | exact fun e => c16 (Int32.toInt_inj.mp (e.trans (by decide))) | exact fun e => c17 (Int32.toInt_inj.mp (e.trans (by decide))) | exact fun e => c18 (Int32.toInt_inj.mp (e.trans (by decide))) | exact fun e => c19 (Int32.toInt_inj.mp (e.trans (by decide))) | exact fun e => c20 (Int32.toInt_inj.mp (e.trans (by decide))) | exact fun e => c21 (Int32.toInt_inj.mp (e.trans (by decide))))) (by decide) ?_
                                            refine lv_iconst (v := (-1 : Int32)) hx hb dX12_nameOf_115 (by decide) ?_
                                            exact tb_iretP h hx hb hr hS hW hlk dX12_nameOf_116
def fX12_opensOne (M0 : Mem) : Option (Int32 × Mem) :=
  if (mgI M0 1236 0 0) = (6 : Int32) then (bE (fX12_wrong M0) fun u6 M7 => some ((0 : Int32), M7)) else (nm ((mgI M0 1236 0 0) + (1 : Int32)) fun v2 => nm (msI M0 1236 0 0 v2) fun M3 => nm ((mgI M3 1234 0 0) + (1 : Int32)) fun v4 => nm (msI M3 1234 0 0 v4) fun M5 => some ((1 : Int32), M5))
set_option maxHeartbeats 4000000 in
set_option maxRecDepth 100000 in
theorem mX12_opensOne {l : Launch} {D : va_G} {cy : Nat → ClassId} {A : Nat → Prop} {Z : State → Heap → Prop} {ad : Nat → Nat → Nat} (hZk : ZOK A Z) (M0 : Mem) (r : Int32) (M' : Mem) (h : fX12_opensOne M0 = some (r, M')) : Met l yX12_opensOne (wt yX12_opensOne cX12_opensOne 1 (some .boolean)) (rm 1 20) (CPre D cy A Z cnM ad M0 [.ref (ad 12 0)]) (QZ D cy A cnM ad r M') 0 0 A := by
  refine tb_start [.ref (ad 12 0)] [(0, .ref (ad 12 0))] RX12 rfl (by decide +kernel) (Nat.le_of_ble_eq_true rfl) rfl (fun p e s m args below meth c hx hb hr hml hown hts hlk hW hK hZ ls hl => ?_)
  have hS : va_S A s.heap s.heap [] := va_S.rf
  unfold fX12_opensOne at h
  refine lv_aload_n hx hb dX12_opensOne_0 rfl (lv_at hl 0 rfl) ?_
  refine gtX12_268 hx hb hts hown hK hW cz12 dX12_opensOne_1 ?_
  refine lv_bipush (v := (6 : Int32)) hx hb dX12_opensOne_4 (by decide) ?_
  refine lv_icmp_ne (tgt := 15) hx hb dX12_opensOne_6 (by decide) (fun c1 => ?_) (fun c1 => ?_)
  · have h := sh_f c1 h
    refine lv_aload_n hx hb dX12_opensOne_15 rfl (lv_at hl 0 rfl) ?_
    refine lv_dup hx hb dX12_opensOne_16 rfl ?_
    refine gtX12_268 hx hb hts hown hK hW cz12 dX12_opensOne_17 ?_
    refine lv_iconst (v := (1 : Int32)) hx hb dX12_opensOne_20 (by decide) ?_
    refine lv_iadd hx hb dX12_opensOne_21 ?_
    refine lv_topi (fun v2 ev2 => ?_)
    have h := nm_a ev2 h
    refine ptX12_268 hx hb hts hown hK hW hS cz12 dX12_opensOne_22 (fun H locs hW hS => ?_)
    obtain ⟨M3, eM3⟩ : ∃ y, y = msI M0 1236 0 0 v2 := ⟨_, rfl⟩
    have h := nm_a eM3 h
    rw [← eM3] at hW
    refine lv_aload_n hx hb dX12_opensOne_25 rfl (lv_at hl 0 rfl) ?_
    refine lv_dup hx hb dX12_opensOne_26 rfl ?_
    refine gtX12_259 hx hb hts hown hK hW cz12 dX12_opensOne_27 ?_
    refine lv_iconst (v := (1 : Int32)) hx hb dX12_opensOne_30 (by decide) ?_
    refine lv_iadd hx hb dX12_opensOne_31 ?_
    refine lv_topi (fun v4 ev4 => ?_)
    have h := nm_a ev4 h
    refine ptX12_259 hx hb hts hown hK hW hS cz12 dX12_opensOne_32 (fun H locs hW hS => ?_)
    obtain ⟨M5, eM5⟩ : ∃ y, y = msI M3 1234 0 0 v4 := ⟨_, rfl⟩
    have h := nm_a eM5 h
    rw [← eM5] at hW
    refine lv_iconst (v := (1 : Int32)) hx hb dX12_opensOne_35 (by decide) ?_
    exact tb_zretE h hx hb hr hS hW hlk (by decide) dX12_opensOne_36
  · have h := sh_t c1 h
    refine lv_aload_n hx hb dX12_opensOne_9 rfl (lv_at hl 0 rfl) ?_
    obtain ⟨u6, M7, hcu6, h⟩ := bE_a h
    refine tb_cVV hZk hx hb hml hown hts hK hZ hW hS [] (mX12_wrong (l := l) hZk M0 u6 M7 hcu6) pmX12_wrong tw1605 (Wd.recv hK hW (t := 12) (by decide) cz12 (C := RX12) (T := TX12) (N := 58) rfl) ⟨Nat.le_of_ble_eq_true rfl, Nat.le_of_ble_eq_true rfl⟩ rfl hl.1 (Nat.le_of_ble_eq_true rfl) ⟨Nat.le_refl _, Nat.le_refl _⟩ rfl dX12_opensOne_10 (fun H locs hW hS => ?_)
    refine lv_iconst (v := (0 : Int32)) hx hb dX12_opensOne_13 (by decide) ?_
    exact tb_zretE h hx hb hr hS hW hlk (by decide) dX12_opensOne_14
def fX12_figure_b4 (k1 : Int32 → Int32 → Mem → Option (Unit × Mem)) (i2 : Int32) (i3 : Int32) (M4 : Mem) : Option (Unit × Mem) :=
  if (4 : Int32) ≤ i3 then (if i3 = 0 then (bE (fX12_wrong M4) fun u7 M8 => bE (fX12_lay (1 : Int32) i2 M8) fun u9 M10 => some ((), M10)) else (bd (fX12_look M4) fun b11 => nm (fX12_in b11 (48 : Int32) (57 : Int32)) fun b12 => if b12 = 0 then (bE (fX12_lay (1 : Int32) i2 M4) fun u14 M15 => some ((), M15)) else (bE (fX12_wrong M4) fun u16 M17 => bE (fX12_lay (1 : Int32) i2 M17) fun u18 M19 => some ((), M19)))) else (bd (fX12_look M4) fun b20 => nm (fX12_in b20 (48 : Int32) (57 : Int32)) fun b21 => if b21 = 0 then (if i3 = 0 then (bE (fX12_wrong M4) fun u24 M25 => bE (fX12_lay (1 : Int32) i2 M25) fun u26 M27 => some ((), M27)) else (bd (fX12_look M4) fun b28 => nm (fX12_in b28 (48 : Int32) (57 : Int32)) fun b29 => if b29 = 0 then (bE (fX12_lay (1 : Int32) i2 M4) fun u31 M32 => some ((), M32)) else (bE (fX12_wrong M4) fun u33 M34 => bE (fX12_lay (1 : Int32) i2 M34) fun u35 M36 => some ((), M36)))) else (bd (fX12_look M4) fun b37 => nm ((((10 : Int32) * i2) + b37) - (48 : Int32)) fun v38 => nm (i3 + (1 : Int32)) fun v39 => nm ((mgI M4 1234 0 0) + (1 : Int32)) fun v40 => nm (msI M4 1234 0 0 v40) fun M41 => k1 v38 v39 M41))
def fX12_figure_l4 : Nat → Int32 → Int32 → Mem → Option (Unit × Mem)
  | 0, _, _, _ => none
  | n + 1, i2, i3, M4 => fX12_figure_b4 (fX12_figure_l4 n) i2 i3 M4
def fX12_figure (M0 : Mem) : Option (Unit × Mem) :=
  fX12_figure_l4 FU (0 : Int32) (0 : Int32) M0
set_option maxHeartbeats 4000000 in
set_option maxRecDepth 100000 in
theorem mX12_figure {l : Launch} {D : va_G} {cy : Nat → ClassId} {A : Nat → Prop} {Z : State → Heap → Prop} {ad : Nat → Nat → Nat} (hZk : ZOK A Z) (M0 : Mem) (r : Unit) (M' : Mem) (h : fX12_figure M0 = some (r, M')) : Met l yX12_figure (wt yX12_figure cX12_figure 3 none) (rm 1 22) (CPre D cy A Z cnM ad M0 [.ref (ad 12 0)]) (QV D cy A cnM ad r M') 0 0 A := by
  refine tb_start [.ref (ad 12 0)] [(0, .ref (ad 12 0))] RX12 rfl (by decide +kernel) (Nat.le_of_ble_eq_true rfl) rfl (fun p e s m args below meth c hx hb hr hml hown hts hlk hW hK hZ ls hl => ?_)
  have hS : va_S A s.heap s.heap [] := va_S.rf
  unfold fX12_figure at h
  refine lv_iconst (v := (0 : Int32)) hx hb dX12_figure_0 (by decide) ?_
  refine lv_istore_n (lv' := [(1, .int (0 : Int32)), (0, .ref (ad 12 0))]) hx hb dX12_figure_1 rfl hl (by decide) rfl (fun ls hl => ?_)
  refine lv_iconst (v := (0 : Int32)) hx hb dX12_figure_2 (by decide) ?_
  refine lv_istore_n (lv' := [(2, .int (0 : Int32)), (1, .int (0 : Int32)), (0, .ref (ad 12 0))]) hx hb dX12_figure_3 rfl hl (by decide) rfl (fun ls hl => ?_)
  have L1 : ∀ (n1 : Nat) (i2 : Int32) (i3 : Int32) (M4 : Mem) (H : Heap) (locs : List Loc) (ls : Array Slot), Wd D cy A cnM ad M4 H → va_S A s.heap H locs → lv_has ls 3 [(0, .ref (ad 12 0)), (1, .int i2), (2, .int i3)] → fX12_figure_l4 n1 i2 i3 M4 = some (r, M') → W p l e (rm 1 22) s m args below meth c H locs 0 0 (MQ below (QV D cy A cnM ad r M') args s 0 0 A) (F0 m 4 ls []) := by
    intro n1
    induction n1 with
    | zero => intro i2 i3 M4 H locs ls hW hS hl h; cases h
    | succ n1 ih1 =>
      intro i2 i3 M4 H locs ls hW hS hl h
      unfold fX12_figure_l4 fX12_figure_b4 at h
      refine lv_iload_n hx hb dX12_figure_4 rfl (lv_at hl 2 rfl) ?_
      refine lv_iconst (v := (4 : Int32)) hx hb dX12_figure_5 (by decide) ?_
      refine lv_icmp_ge (tgt := 52) hx hb dX12_figure_6 (by decide) (fun c5 => ?_) (fun c5 => ?_)
      · have h := sh_t c5 h
        refine lv_iload_n hx hb dX12_figure_52 rfl (lv_at hl 2 rfl) ?_
        refine lv_if_eq (tgt := 70) hx hb dX12_figure_53 (by decide) (fun c6 => ?_) (fun c6 => ?_)
        · have h := sh_t c6 h
          refine lv_aload_n hx hb dX12_figure_70 rfl (lv_at hl 0 rfl) ?_
          obtain ⟨u7, M8, hcu7, h⟩ := bE_a h
          refine tb_cVV hZk hx hb hml hown hts hK hZ hW hS [] (mX12_wrong (l := l) hZk M4 u7 M8 hcu7) pmX12_wrong tw1605 (Wd.recv hK hW (t := 12) (by decide) cz12 (C := RX12) (T := TX12) (N := 58) rfl) ⟨Nat.le_of_ble_eq_true rfl, Nat.le_of_ble_eq_true rfl⟩ rfl hl.1 (Nat.le_of_ble_eq_true rfl) ⟨Nat.le_refl _, Nat.le_refl _⟩ rfl dX12_figure_71 (fun H locs hW hS => ?_)
          refine lv_aload_n hx hb dX12_figure_74 rfl (lv_at hl 0 rfl) ?_
          refine lv_iconst (v := (1 : Int32)) hx hb dX12_figure_75 (by decide) ?_
          refine lv_iload_n hx hb dX12_figure_76 rfl (lv_at hl 1 rfl) ?_
          obtain ⟨u9, M10, hcu9, h⟩ := bE_a h
          refine tb_cVV hZk hx hb hml hown hts hK hZ hW hS [.int (1 : Int32), .int i2] (mX12_lay (l := l) hZk (1 : Int32) i2 M8 u9 M10 hcu9) pmX12_lay tw1597 (Wd.recv hK hW (t := 12) (by decide) cz12 (C := RX12) (T := TX12) (N := 58) rfl) ⟨Nat.le_of_ble_eq_true rfl, Nat.le_of_ble_eq_true rfl⟩ rfl hl.1 (Nat.le_of_ble_eq_true rfl) ⟨Nat.le_refl _, Nat.le_refl _⟩ rfl dX12_figure_77 (fun H locs hW hS => ?_)
          exact tb_vretE h hx hb hr hS hW hlk dX12_figure_80
        · have h := sh_f c6 h
          refine lv_aload_n hx hb dX12_figure_56 rfl (lv_at hl 0 rfl) ?_
          obtain ⟨b11, hcb11, h⟩ := bd_a h
          refine tb_cVI hZk hx hb hml hown hts hK hZ hW hS [] (mX12_look (l := l) hZk M4 b11 hcb11) pmX12_look tw1590 (Wd.recv hK hW (t := 12) (by decide) cz12 (C := RX12) (T := TX12) (N := 58) rfl) ⟨Nat.le_of_ble_eq_true rfl, Nat.le_of_ble_eq_true rfl⟩ rfl hl.1 (Nat.le_of_ble_eq_true rfl) ⟨Nat.le_refl _, Nat.le_refl _⟩ rfl dX12_figure_57 (fun H locs hW hS => ?_)
          refine lv_bipush (v := (48 : Int32)) hx hb dX12_figure_60 (by decide) ?_
          refine lv_bipush (v := (57 : Int32)) hx hb dX12_figure_62 (by decide) ?_
          refine tb_cSZ hZk hx hb hml hown hts hK hZ hW hS [.int b11, .int (48 : Int32), .int (57 : Int32)] (mX12_in (l := l) hZk b11 (48 : Int32) (57 : Int32) M4 (fX12_in b11 (48 : Int32) (57 : Int32)) rfl) pmX12_in tw1401 ⟨Nat.le_of_ble_eq_true rfl, Nat.le_of_ble_eq_true rfl⟩ rfl hl.1 (Nat.le_of_ble_eq_true rfl) ⟨Nat.le_refl _, Nat.le_refl _⟩ rfl dX12_figure_64 (fun H locs hW hS hzz => ?_)
          refine lv_topi (fun b12 eb12 => ?_)
          have h := nm_a eb12 h
          have hzb12 : b12 = 0 ∨ b12 = 1 := by rw [eb12]; exact hzz
          refine lv_if_eq (tgt := 74) hx hb dX12_figure_67 (by decide) (fun c13 => ?_) (fun c13 => ?_)
          · have h := sh_t c13 h
            refine lv_aload_n hx hb dX12_figure_74 rfl (lv_at hl 0 rfl) ?_
            refine lv_iconst (v := (1 : Int32)) hx hb dX12_figure_75 (by decide) ?_
            refine lv_iload_n hx hb dX12_figure_76 rfl (lv_at hl 1 rfl) ?_
            obtain ⟨u14, M15, hcu14, h⟩ := bE_a h
            refine tb_cVV hZk hx hb hml hown hts hK hZ hW hS [.int (1 : Int32), .int i2] (mX12_lay (l := l) hZk (1 : Int32) i2 M4 u14 M15 hcu14) pmX12_lay tw1597 (Wd.recv hK hW (t := 12) (by decide) cz12 (C := RX12) (T := TX12) (N := 58) rfl) ⟨Nat.le_of_ble_eq_true rfl, Nat.le_of_ble_eq_true rfl⟩ rfl hl.1 (Nat.le_of_ble_eq_true rfl) ⟨Nat.le_refl _, Nat.le_refl _⟩ rfl dX12_figure_77 (fun H locs hW hS => ?_)
            exact tb_vretE h hx hb hr hS hW hlk dX12_figure_80
          · have h := sh_f c13 h
            refine lv_aload_n hx hb dX12_figure_70 rfl (lv_at hl 0 rfl) ?_
            obtain ⟨u16, M17, hcu16, h⟩ := bE_a h
            refine tb_cVV hZk hx hb hml hown hts hK hZ hW hS [] (mX12_wrong (l := l) hZk M4 u16 M17 hcu16) pmX12_wrong tw1605 (Wd.recv hK hW (t := 12) (by decide) cz12 (C := RX12) (T := TX12) (N := 58) rfl) ⟨Nat.le_of_ble_eq_true rfl, Nat.le_of_ble_eq_true rfl⟩ rfl hl.1 (Nat.le_of_ble_eq_true rfl) ⟨Nat.le_refl _, Nat.le_refl _⟩ rfl dX12_figure_71 (fun H locs hW hS => ?_)
            refine lv_aload_n hx hb dX12_figure_74 rfl (lv_at hl 0 rfl) ?_
            refine lv_iconst (v := (1 : Int32)) hx hb dX12_figure_75 (by decide) ?_
            refine lv_iload_n hx hb dX12_figure_76 rfl (lv_at hl 1 rfl) ?_
            obtain ⟨u18, M19, hcu18, h⟩ := bE_a h
            refine tb_cVV hZk hx hb hml hown hts hK hZ hW hS [.int (1 : Int32), .int i2] (mX12_lay (l := l) hZk (1 : Int32) i2 M17 u18 M19 hcu18) pmX12_lay tw1597 (Wd.recv hK hW (t := 12) (by decide) cz12 (C := RX12) (T := TX12) (N := 58) rfl) ⟨Nat.le_of_ble_eq_true rfl, Nat.le_of_ble_eq_true rfl⟩ rfl hl.1 (Nat.le_of_ble_eq_true rfl) ⟨Nat.le_refl _, Nat.le_refl _⟩ rfl dX12_figure_77 (fun H locs hW hS => ?_)
            exact tb_vretE h hx hb hr hS hW hlk dX12_figure_80
      · have h := sh_f c5 h
        refine lv_aload_n hx hb dX12_figure_9 rfl (lv_at hl 0 rfl) ?_
        obtain ⟨b20, hcb20, h⟩ := bd_a h
        refine tb_cVI hZk hx hb hml hown hts hK hZ hW hS [] (mX12_look (l := l) hZk M4 b20 hcb20) pmX12_look tw1590 (Wd.recv hK hW (t := 12) (by decide) cz12 (C := RX12) (T := TX12) (N := 58) rfl) ⟨Nat.le_of_ble_eq_true rfl, Nat.le_of_ble_eq_true rfl⟩ rfl hl.1 (Nat.le_of_ble_eq_true rfl) ⟨Nat.le_refl _, Nat.le_refl _⟩ rfl dX12_figure_10 (fun H locs hW hS => ?_)
        refine lv_bipush (v := (48 : Int32)) hx hb dX12_figure_13 (by decide) ?_
        refine lv_bipush (v := (57 : Int32)) hx hb dX12_figure_15 (by decide) ?_
        refine tb_cSZ hZk hx hb hml hown hts hK hZ hW hS [.int b20, .int (48 : Int32), .int (57 : Int32)] (mX12_in (l := l) hZk b20 (48 : Int32) (57 : Int32) M4 (fX12_in b20 (48 : Int32) (57 : Int32)) rfl) pmX12_in tw1401 ⟨Nat.le_of_ble_eq_true rfl, Nat.le_of_ble_eq_true rfl⟩ rfl hl.1 (Nat.le_of_ble_eq_true rfl) ⟨Nat.le_refl _, Nat.le_refl _⟩ rfl dX12_figure_17 (fun H locs hW hS hzz => ?_)
        refine lv_topi (fun b21 eb21 => ?_)
        have h := nm_a eb21 h
        have hzb21 : b21 = 0 ∨ b21 = 1 := by rw [eb21]; exact hzz
        refine lv_if_eq (tgt := 52) hx hb dX12_figure_20 (by decide) (fun c22 => ?_) (fun c22 => ?_)
        · have h := sh_t c22 h
          refine lv_iload_n hx hb dX12_figure_52 rfl (lv_at hl 2 rfl) ?_
          refine lv_if_eq (tgt := 70) hx hb dX12_figure_53 (by decide) (fun c23 => ?_) (fun c23 => ?_)
          · have h := sh_t c23 h
            refine lv_aload_n hx hb dX12_figure_70 rfl (lv_at hl 0 rfl) ?_
            obtain ⟨u24, M25, hcu24, h⟩ := bE_a h
            refine tb_cVV hZk hx hb hml hown hts hK hZ hW hS [] (mX12_wrong (l := l) hZk M4 u24 M25 hcu24) pmX12_wrong tw1605 (Wd.recv hK hW (t := 12) (by decide) cz12 (C := RX12) (T := TX12) (N := 58) rfl) ⟨Nat.le_of_ble_eq_true rfl, Nat.le_of_ble_eq_true rfl⟩ rfl hl.1 (Nat.le_of_ble_eq_true rfl) ⟨Nat.le_refl _, Nat.le_refl _⟩ rfl dX12_figure_71 (fun H locs hW hS => ?_)
            refine lv_aload_n hx hb dX12_figure_74 rfl (lv_at hl 0 rfl) ?_
            refine lv_iconst (v := (1 : Int32)) hx hb dX12_figure_75 (by decide) ?_
            refine lv_iload_n hx hb dX12_figure_76 rfl (lv_at hl 1 rfl) ?_
            obtain ⟨u26, M27, hcu26, h⟩ := bE_a h
            refine tb_cVV hZk hx hb hml hown hts hK hZ hW hS [.int (1 : Int32), .int i2] (mX12_lay (l := l) hZk (1 : Int32) i2 M25 u26 M27 hcu26) pmX12_lay tw1597 (Wd.recv hK hW (t := 12) (by decide) cz12 (C := RX12) (T := TX12) (N := 58) rfl) ⟨Nat.le_of_ble_eq_true rfl, Nat.le_of_ble_eq_true rfl⟩ rfl hl.1 (Nat.le_of_ble_eq_true rfl) ⟨Nat.le_refl _, Nat.le_refl _⟩ rfl dX12_figure_77 (fun H locs hW hS => ?_)
            exact tb_vretE h hx hb hr hS hW hlk dX12_figure_80
          · have h := sh_f c23 h
            refine lv_aload_n hx hb dX12_figure_56 rfl (lv_at hl 0 rfl) ?_
            obtain ⟨b28, hcb28, h⟩ := bd_a h
            refine tb_cVI hZk hx hb hml hown hts hK hZ hW hS [] (mX12_look (l := l) hZk M4 b28 hcb28) pmX12_look tw1590 (Wd.recv hK hW (t := 12) (by decide) cz12 (C := RX12) (T := TX12) (N := 58) rfl) ⟨Nat.le_of_ble_eq_true rfl, Nat.le_of_ble_eq_true rfl⟩ rfl hl.1 (Nat.le_of_ble_eq_true rfl) ⟨Nat.le_refl _, Nat.le_refl _⟩ rfl dX12_figure_57 (fun H locs hW hS => ?_)
            refine lv_bipush (v := (48 : Int32)) hx hb dX12_figure_60 (by decide) ?_
            refine lv_bipush (v := (57 : Int32)) hx hb dX12_figure_62 (by decide) ?_
            refine tb_cSZ hZk hx hb hml hown hts hK hZ hW hS [.int b28, .int (48 : Int32), .int (57 : Int32)] (mX12_in (l := l) hZk b28 (48 : Int32) (57 : Int32) M4 (fX12_in b28 (48 : Int32) (57 : Int32)) rfl) pmX12_in tw1401 ⟨Nat.le_of_ble_eq_true rfl, Nat.le_of_ble_eq_true rfl⟩ rfl hl.1 (Nat.le_of_ble_eq_true rfl) ⟨Nat.le_refl _, Nat.le_refl _⟩ rfl dX12_figure_64 (fun H locs hW hS hzz => ?_)
            refine lv_topi (fun b29 eb29 => ?_)
            have h := nm_a eb29 h
            have hzb29 : b29 = 0 ∨ b29 = 1 := by rw [eb29]; exact hzz
            refine lv_if_eq (tgt := 74) hx hb dX12_figure_67 (by decide) (fun c30 => ?_) (fun c30 => ?_)
            · have h := sh_t c30 h
              refine lv_aload_n hx hb dX12_figure_74 rfl (lv_at hl 0 rfl) ?_
              refine lv_iconst (v := (1 : Int32)) hx hb dX12_figure_75 (by decide) ?_
              refine lv_iload_n hx hb dX12_figure_76 rfl (lv_at hl 1 rfl) ?_
              obtain ⟨u31, M32, hcu31, h⟩ := bE_a h
              refine tb_cVV hZk hx hb hml hown hts hK hZ hW hS [.int (1 : Int32), .int i2] (mX12_lay (l := l) hZk (1 : Int32) i2 M4 u31 M32 hcu31) pmX12_lay tw1597 (Wd.recv hK hW (t := 12) (by decide) cz12 (C := RX12) (T := TX12) (N := 58) rfl) ⟨Nat.le_of_ble_eq_true rfl, Nat.le_of_ble_eq_true rfl⟩ rfl hl.1 (Nat.le_of_ble_eq_true rfl) ⟨Nat.le_refl _, Nat.le_refl _⟩ rfl dX12_figure_77 (fun H locs hW hS => ?_)
              exact tb_vretE h hx hb hr hS hW hlk dX12_figure_80
            · have h := sh_f c30 h
              refine lv_aload_n hx hb dX12_figure_70 rfl (lv_at hl 0 rfl) ?_
              obtain ⟨u33, M34, hcu33, h⟩ := bE_a h
              refine tb_cVV hZk hx hb hml hown hts hK hZ hW hS [] (mX12_wrong (l := l) hZk M4 u33 M34 hcu33) pmX12_wrong tw1605 (Wd.recv hK hW (t := 12) (by decide) cz12 (C := RX12) (T := TX12) (N := 58) rfl) ⟨Nat.le_of_ble_eq_true rfl, Nat.le_of_ble_eq_true rfl⟩ rfl hl.1 (Nat.le_of_ble_eq_true rfl) ⟨Nat.le_refl _, Nat.le_refl _⟩ rfl dX12_figure_71 (fun H locs hW hS => ?_)
              refine lv_aload_n hx hb dX12_figure_74 rfl (lv_at hl 0 rfl) ?_
              refine lv_iconst (v := (1 : Int32)) hx hb dX12_figure_75 (by decide) ?_
              refine lv_iload_n hx hb dX12_figure_76 rfl (lv_at hl 1 rfl) ?_
              obtain ⟨u35, M36, hcu35, h⟩ := bE_a h
              refine tb_cVV hZk hx hb hml hown hts hK hZ hW hS [.int (1 : Int32), .int i2] (mX12_lay (l := l) hZk (1 : Int32) i2 M34 u35 M36 hcu35) pmX12_lay tw1597 (Wd.recv hK hW (t := 12) (by decide) cz12 (C := RX12) (T := TX12) (N := 58) rfl) ⟨Nat.le_of_ble_eq_true rfl, Nat.le_of_ble_eq_true rfl⟩ rfl hl.1 (Nat.le_of_ble_eq_true rfl) ⟨Nat.le_refl _, Nat.le_refl _⟩ rfl dX12_figure_77 (fun H locs hW hS => ?_)
              exact tb_vretE h hx hb hr hS hW hlk dX12_figure_80
        · have h := sh_f c22 h
          refine lv_bipush (v := (10 : Int32)) hx hb dX12_figure_23 (by decide) ?_
          refine lv_iload_n hx hb dX12_figure_25 rfl (lv_at hl 1 rfl) ?_
          refine lv_imul hx hb dX12_figure_26 ?_
          refine lv_aload_n hx hb dX12_figure_27 rfl (lv_at hl 0 rfl) ?_
          obtain ⟨b37, hcb37, h⟩ := bd_a h
          refine tb_cVI hZk hx hb hml hown hts hK hZ hW hS [] (mX12_look (l := l) hZk M4 b37 hcb37) pmX12_look tw1590 (Wd.recv hK hW (t := 12) (by decide) cz12 (C := RX12) (T := TX12) (N := 58) rfl) ⟨Nat.le_of_ble_eq_true rfl, Nat.le_of_ble_eq_true rfl⟩ rfl hl.1 (Nat.le_of_ble_eq_true rfl) ⟨Nat.le_refl _, Nat.le_refl _⟩ rfl dX12_figure_28 (fun H locs hW hS => ?_)
          refine lv_iadd hx hb dX12_figure_31 ?_
          refine lv_bipush (v := (48 : Int32)) hx hb dX12_figure_32 (by decide) ?_
          refine lv_isub hx hb dX12_figure_34 ?_
          refine lv_topi (fun v38 ev38 => ?_)
          have h := nm_a ev38 h
          refine lv_istore_n (lv' := [(1, .int v38), (0, .ref (ad 12 0)), (2, .int i3)]) hx hb dX12_figure_35 rfl hl (by decide) rfl (fun ls hl => ?_)
          obtain ⟨v39, ev39⟩ : ∃ y : Int32, y = i3 + (1 : Int32) := ⟨_, rfl⟩
          have h := nm_a ev39 h
          refine lv_iinc (v := v39) (lv' := [(2, .int v39), (1, .int v38), (0, .ref (ad 12 0))]) hx hb dX12_figure_36 hl (k := 2) rfl (by rw [ev39]; rfl) (by decide) rfl (fun ls hl => ?_)
          refine lv_aload_n hx hb dX12_figure_39 rfl (lv_at hl 2 rfl) ?_
          refine lv_dup hx hb dX12_figure_40 rfl ?_
          refine gtX12_259 hx hb hts hown hK hW cz12 dX12_figure_41 ?_
          refine lv_iconst (v := (1 : Int32)) hx hb dX12_figure_44 (by decide) ?_
          refine lv_iadd hx hb dX12_figure_45 ?_
          refine lv_topi (fun v40 ev40 => ?_)
          have h := nm_a ev40 h
          refine ptX12_259 hx hb hts hown hK hW hS cz12 dX12_figure_46 (fun H locs hW hS => ?_)
          obtain ⟨M41, eM41⟩ : ∃ y, y = msI M4 1234 0 0 v40 := ⟨_, rfl⟩
          have h := nm_a eM41 h
          rw [← eM41] at hW
          refine lv_goto (tgt := 4) hx hb dX12_figure_49 (by decide) ?_
          exact ih1 v38 v39 M41 _ _ _ hW hS (lv_sub hl [2, 1, 0] rfl) h
  exact L1 FU (0 : Int32) (0 : Int32) M0 _ _ _ hW hS (lv_sub hl [2, 1, 0] rfl) h
def fX12_twoOf (x0 : Int32) (x1 : Int32) (x2 : Int32) : Option Int32 :=
  if x0 = (37 : Int32) then (if x2 = 0 then (some (0 : Int32)) else (if x2 = (-1 : Int32) then (some (0 : Int32)) else (nzI x2 <| some (x1 - x1 / x2 * x2)))) else if x0 = (38 : Int32) then (if x1 = 0 then (some (0 : Int32)) else (if x2 = 0 then (some (0 : Int32)) else (some (1 : Int32)))) else if x0 = (39 : Int32) then (if x1 = 0 then (if x2 = 0 then (some (0 : Int32)) else (some (1 : Int32))) else (some (1 : Int32))) else if x0 = (40 : Int32) then (if x1 = 0 then (if x2 = 0 then (some (0 : Int32)) else (some (1 : Int32))) else (some (1 : Int32))) else if x0 = (41 : Int32) then (if x1 = 0 then (if x2 = 0 then (some (0 : Int32)) else (some (1 : Int32))) else (some (1 : Int32))) else if x0 = (42 : Int32) then (some (x1 * x2)) else if x0 = (43 : Int32) then (some (x1 + x2)) else if x0 = (44 : Int32) then (if x1 = 0 then (if x2 = 0 then (some (0 : Int32)) else (some (1 : Int32))) else (some (1 : Int32))) else if x0 = (45 : Int32) then (some (x1 - x2)) else if x0 = (46 : Int32) then (if x1 = 0 then (if x2 = 0 then (some (0 : Int32)) else (some (1 : Int32))) else (some (1 : Int32))) else if x0 = (47 : Int32) then (if x2 = 0 then (some (0 : Int32)) else (if x2 = (-1 : Int32) then (some (-x1)) else (nzI x2 <| some (x1 / x2)))) else if x0 = (48 : Int32) then (if x1 = 0 then (if x2 = 0 then (some (0 : Int32)) else (some (1 : Int32))) else (some (1 : Int32))) else if x0 = (49 : Int32) then (if x1 = 0 then (if x2 = 0 then (some (0 : Int32)) else (some (1 : Int32))) else (some (1 : Int32))) else if x0 = (50 : Int32) then (if x1 = 0 then (if x2 = 0 then (some (0 : Int32)) else (some (1 : Int32))) else (some (1 : Int32))) else if x0 = (51 : Int32) then (if x1 = 0 then (if x2 = 0 then (some (0 : Int32)) else (some (1 : Int32))) else (some (1 : Int32))) else if x0 = (52 : Int32) then (if x1 = 0 then (if x2 = 0 then (some (0 : Int32)) else (some (1 : Int32))) else (some (1 : Int32))) else if x0 = (53 : Int32) then (if x1 = 0 then (if x2 = 0 then (some (0 : Int32)) else (some (1 : Int32))) else (some (1 : Int32))) else if x0 = (54 : Int32) then (if x1 = 0 then (if x2 = 0 then (some (0 : Int32)) else (some (1 : Int32))) else (some (1 : Int32))) else if x0 = (55 : Int32) then (if x1 = 0 then (if x2 = 0 then (some (0 : Int32)) else (some (1 : Int32))) else (some (1 : Int32))) else if x0 = (56 : Int32) then (if x1 = 0 then (if x2 = 0 then (some (0 : Int32)) else (some (1 : Int32))) else (some (1 : Int32))) else if x0 = (57 : Int32) then (if x1 = 0 then (if x2 = 0 then (some (0 : Int32)) else (some (1 : Int32))) else (some (1 : Int32))) else if x0 = (58 : Int32) then (if x1 = 0 then (if x2 = 0 then (some (0 : Int32)) else (some (1 : Int32))) else (some (1 : Int32))) else if x0 = (59 : Int32) then (if x1 = 0 then (if x2 = 0 then (some (0 : Int32)) else (some (1 : Int32))) else (some (1 : Int32))) else if x0 = (60 : Int32) then (if x2 ≤ x1 then (some (0 : Int32)) else (some (1 : Int32))) else if x0 = (61 : Int32) then (if x1 = x2 then (some (1 : Int32)) else (some (0 : Int32))) else if x0 = (62 : Int32) then (if x1 ≤ x2 then (some (0 : Int32)) else (some (1 : Int32))) else if x1 = 0 then (if x2 = 0 then (some (0 : Int32)) else (some (1 : Int32))) else (some (1 : Int32))
set_option maxHeartbeats 4000000 in
set_option maxRecDepth 100000 in
theorem mX12_twoOf {l : Launch} {D : va_G} {cy : Nat → ClassId} {A : Nat → Prop} {Z : State → Heap → Prop} {ad : Nat → Nat → Nat} (hZk : ZOK A Z) (x0 : Int32) (x1 : Int32) (x2 : Int32) (M0 : Mem) (r : Int32) (h : fX12_twoOf x0 x1 x2 = some r) : Met l yX12_twoOf (wt yX12_twoOf cX12_twoOf 3 (some .int)) (rm 0 0) (CPre D cy A Z cnM ad M0 [.int x0, .int x1, .int x2]) (QI D cy A cnM ad r M0) 0 0 A := by
  refine tb_start [.int x0, .int x1, .int x2] [(0, .int x0), (1, .int x1), (2, .int x2)] RX12 rfl (by decide +kernel) (Nat.le_of_ble_eq_true rfl) rfl (fun p e s m args below meth c hx hb hr hml hown hts hlk hW hK hZ ls hl => ?_)
  have hS : va_S A s.heap s.heap [] := va_S.rf
  unfold fX12_twoOf at h
  refine lv_iload_n hx hb dX12_twoOf_0 rfl (lv_at hl 0 rfl) ?_
  by_cases c1 : x0 = (37 : Int32)
  · have h := sh_t c1 h
    refine lv_tableIn (off := 153) (tgt := 154) hx hb dX12_twoOf_1 (by rw [c1]; decide) (by rw [c1]; decide) (by rw [c1]; rfl) (by decide) ?_
    refine lv_iload_n hx hb dX12_twoOf_154 rfl (lv_at hl 2 rfl) ?_
    refine lv_if_eq (tgt := 163) hx hb dX12_twoOf_155 (by decide) (fun c2 => ?_) (fun c2 => ?_)
    · have h := sh_t c2 h
      refine lv_iconst (v := (0 : Int32)) hx hb dX12_twoOf_163 (by decide) ?_
      refine lv_goto (tgt := 170) hx hb dX12_twoOf_164 (by decide) ?_
      exact tb_iretO h hx hb hr hS hW hlk dX12_twoOf_170
    · have h := sh_f c2 h
      refine lv_iload_n hx hb dX12_twoOf_158 rfl (lv_at hl 2 rfl) ?_
      refine lv_iconst (v := (-1 : Int32)) hx hb dX12_twoOf_159 (by decide) ?_
      refine lv_icmp_ne (tgt := 167) hx hb dX12_twoOf_160 (by decide) (fun c3 => ?_) (fun c3 => ?_)
      · have h := sh_f c3 h
        refine lv_iload_n hx hb dX12_twoOf_167 rfl (lv_at hl 1 rfl) ?_
        refine lv_iload_n hx hb dX12_twoOf_168 rfl (lv_at hl 2 rfl) ?_
        obtain ⟨hne, h⟩ := nzI_a h
        refine lv_irem hx hb dX12_twoOf_169 hne ?_
        exact tb_iretO h hx hb hr hS hW hlk dX12_twoOf_170
      · have h := sh_t c3 h
        refine lv_iconst (v := (0 : Int32)) hx hb dX12_twoOf_163 (by decide) ?_
        refine lv_goto (tgt := 170) hx hb dX12_twoOf_164 (by decide) ?_
        exact tb_iretO h hx hb hr hS hW hlk dX12_twoOf_170
  · have h := sh_f c1 h
    by_cases c4 : x0 = (38 : Int32)
    · have h := sh_t c4 h
      refine lv_tableIn (off := 203) (tgt := 204) hx hb dX12_twoOf_1 (by rw [c4]; decide) (by rw [c4]; decide) (by rw [c4]; rfl) (by decide) ?_
      refine lv_iload_n hx hb dX12_twoOf_204 rfl (lv_at hl 1 rfl) ?_
      refine lv_if_eq (tgt := 216) hx hb dX12_twoOf_205 (by decide) (fun c5 => ?_) (fun c5 => ?_)
      · have h := sh_t c5 h
        refine lv_iconst (v := (0 : Int32)) hx hb dX12_twoOf_216 (by decide) ?_
        exact tb_iretO h hx hb hr hS hW hlk dX12_twoOf_217
      · have h := sh_f c5 h
        refine lv_iload_n hx hb dX12_twoOf_208 rfl (lv_at hl 2 rfl) ?_
        refine lv_if_eq (tgt := 216) hx hb dX12_twoOf_209 (by decide) (fun c6 => ?_) (fun c6 => ?_)
        · have h := sh_t c6 h
          refine lv_iconst (v := (0 : Int32)) hx hb dX12_twoOf_216 (by decide) ?_
          exact tb_iretO h hx hb hr hS hW hlk dX12_twoOf_217
        · have h := sh_f c6 h
          refine lv_iconst (v := (1 : Int32)) hx hb dX12_twoOf_212 (by decide) ?_
          refine lv_goto (tgt := 217) hx hb dX12_twoOf_213 (by decide) ?_
          exact tb_iretO h hx hb hr hS hW hlk dX12_twoOf_217
    · have h := sh_f c4 h
      by_cases c7 : x0 = (39 : Int32)
      · have h := sh_t c7 h
        refine lv_tableIn (off := 217) (tgt := 218) hx hb dX12_twoOf_1 (by rw [c7]; decide) (by rw [c7]; decide) (by rw [c7]; rfl) (by decide) ?_
        refine lv_iload_n hx hb dX12_twoOf_218 rfl (lv_at hl 1 rfl) ?_
        refine lv_if_ne (tgt := 226) hx hb dX12_twoOf_219 (by decide) (fun c8 => ?_) (fun c8 => ?_)
        · have h := sh_f c8 h
          refine lv_iconst (v := (1 : Int32)) hx hb dX12_twoOf_226 (by decide) ?_
          refine lv_goto (tgt := 231) hx hb dX12_twoOf_227 (by decide) ?_
          exact tb_iretO h hx hb hr hS hW hlk dX12_twoOf_231
        · have h := sh_t c8 h
          refine lv_iload_n hx hb dX12_twoOf_222 rfl (lv_at hl 2 rfl) ?_
          refine lv_if_eq (tgt := 230) hx hb dX12_twoOf_223 (by decide) (fun c9 => ?_) (fun c9 => ?_)
          · have h := sh_t c9 h
            refine lv_iconst (v := (0 : Int32)) hx hb dX12_twoOf_230 (by decide) ?_
            exact tb_iretO h hx hb hr hS hW hlk dX12_twoOf_231
          · have h := sh_f c9 h
            refine lv_iconst (v := (1 : Int32)) hx hb dX12_twoOf_226 (by decide) ?_
            refine lv_goto (tgt := 231) hx hb dX12_twoOf_227 (by decide) ?_
            exact tb_iretO h hx hb hr hS hW hlk dX12_twoOf_231
      · have h := sh_f c7 h
        by_cases c10 : x0 = (40 : Int32)
        · have h := sh_t c10 h
          refine lv_tableIn (off := 217) (tgt := 218) hx hb dX12_twoOf_1 (by rw [c10]; decide) (by rw [c10]; decide) (by rw [c10]; rfl) (by decide) ?_
          refine lv_iload_n hx hb dX12_twoOf_218 rfl (lv_at hl 1 rfl) ?_
          refine lv_if_ne (tgt := 226) hx hb dX12_twoOf_219 (by decide) (fun c11 => ?_) (fun c11 => ?_)
          · have h := sh_f c11 h
            refine lv_iconst (v := (1 : Int32)) hx hb dX12_twoOf_226 (by decide) ?_
            refine lv_goto (tgt := 231) hx hb dX12_twoOf_227 (by decide) ?_
            exact tb_iretO h hx hb hr hS hW hlk dX12_twoOf_231
          · have h := sh_t c11 h
            refine lv_iload_n hx hb dX12_twoOf_222 rfl (lv_at hl 2 rfl) ?_
            refine lv_if_eq (tgt := 230) hx hb dX12_twoOf_223 (by decide) (fun c12 => ?_) (fun c12 => ?_)
            · have h := sh_t c12 h
              refine lv_iconst (v := (0 : Int32)) hx hb dX12_twoOf_230 (by decide) ?_
              exact tb_iretO h hx hb hr hS hW hlk dX12_twoOf_231
            · have h := sh_f c12 h
              refine lv_iconst (v := (1 : Int32)) hx hb dX12_twoOf_226 (by decide) ?_
              refine lv_goto (tgt := 231) hx hb dX12_twoOf_227 (by decide) ?_
              exact tb_iretO h hx hb hr hS hW hlk dX12_twoOf_231
        · have h := sh_f c10 h
          by_cases c13 : x0 = (41 : Int32)
          · have h := sh_t c13 h
            refine lv_tableIn (off := 217) (tgt := 218) hx hb dX12_twoOf_1 (by rw [c13]; decide) (by rw [c13]; decide) (by rw [c13]; rfl) (by decide) ?_
            refine lv_iload_n hx hb dX12_twoOf_218 rfl (lv_at hl 1 rfl) ?_
            refine lv_if_ne (tgt := 226) hx hb dX12_twoOf_219 (by decide) (fun c14 => ?_) (fun c14 => ?_)
            · have h := sh_f c14 h
              refine lv_iconst (v := (1 : Int32)) hx hb dX12_twoOf_226 (by decide) ?_
              refine lv_goto (tgt := 231) hx hb dX12_twoOf_227 (by decide) ?_
              exact tb_iretO h hx hb hr hS hW hlk dX12_twoOf_231
            · have h := sh_t c14 h
              refine lv_iload_n hx hb dX12_twoOf_222 rfl (lv_at hl 2 rfl) ?_
              refine lv_if_eq (tgt := 230) hx hb dX12_twoOf_223 (by decide) (fun c15 => ?_) (fun c15 => ?_)
              · have h := sh_t c15 h
                refine lv_iconst (v := (0 : Int32)) hx hb dX12_twoOf_230 (by decide) ?_
                exact tb_iretO h hx hb hr hS hW hlk dX12_twoOf_231
              · have h := sh_f c15 h
                refine lv_iconst (v := (1 : Int32)) hx hb dX12_twoOf_226 (by decide) ?_
                refine lv_goto (tgt := 231) hx hb dX12_twoOf_227 (by decide) ?_
                exact tb_iretO h hx hb hr hS hW hlk dX12_twoOf_231
          · have h := sh_f c13 h
            by_cases c16 : x0 = (42 : Int32)
            · have h := sh_t c16 h
              refine lv_tableIn (off := 127) (tgt := 128) hx hb dX12_twoOf_1 (by rw [c16]; decide) (by rw [c16]; decide) (by rw [c16]; rfl) (by decide) ?_
              refine lv_iload_n hx hb dX12_twoOf_128 rfl (lv_at hl 1 rfl) ?_
              refine lv_iload_n hx hb dX12_twoOf_129 rfl (lv_at hl 2 rfl) ?_
              refine lv_imul hx hb dX12_twoOf_130 ?_
              exact tb_iretO h hx hb hr hS hW hlk dX12_twoOf_131
            · have h := sh_f c16 h
              by_cases c17 : x0 = (43 : Int32)
              · have h := sh_t c17 h
                refine lv_tableIn (off := 119) (tgt := 120) hx hb dX12_twoOf_1 (by rw [c17]; decide) (by rw [c17]; decide) (by rw [c17]; rfl) (by decide) ?_
                refine lv_iload_n hx hb dX12_twoOf_120 rfl (lv_at hl 1 rfl) ?_
                refine lv_iload_n hx hb dX12_twoOf_121 rfl (lv_at hl 2 rfl) ?_
                refine lv_iadd hx hb dX12_twoOf_122 ?_
                exact tb_iretO h hx hb hr hS hW hlk dX12_twoOf_123
              · have h := sh_f c17 h
                by_cases c18 : x0 = (44 : Int32)
                · have h := sh_t c18 h
                  refine lv_tableIn (off := 217) (tgt := 218) hx hb dX12_twoOf_1 (by rw [c18]; decide) (by rw [c18]; decide) (by rw [c18]; rfl) (by decide) ?_
                  refine lv_iload_n hx hb dX12_twoOf_218 rfl (lv_at hl 1 rfl) ?_
                  refine lv_if_ne (tgt := 226) hx hb dX12_twoOf_219 (by decide) (fun c19 => ?_) (fun c19 => ?_)
                  · have h := sh_f c19 h
                    refine lv_iconst (v := (1 : Int32)) hx hb dX12_twoOf_226 (by decide) ?_
                    refine lv_goto (tgt := 231) hx hb dX12_twoOf_227 (by decide) ?_
                    exact tb_iretO h hx hb hr hS hW hlk dX12_twoOf_231
                  · have h := sh_t c19 h
                    refine lv_iload_n hx hb dX12_twoOf_222 rfl (lv_at hl 2 rfl) ?_
                    refine lv_if_eq (tgt := 230) hx hb dX12_twoOf_223 (by decide) (fun c20 => ?_) (fun c20 => ?_)
                    · have h := sh_t c20 h
                      refine lv_iconst (v := (0 : Int32)) hx hb dX12_twoOf_230 (by decide) ?_
                      exact tb_iretO h hx hb hr hS hW hlk dX12_twoOf_231
                    · have h := sh_f c20 h
                      refine lv_iconst (v := (1 : Int32)) hx hb dX12_twoOf_226 (by decide) ?_
                      refine lv_goto (tgt := 231) hx hb dX12_twoOf_227 (by decide) ?_
                      exact tb_iretO h hx hb hr hS hW hlk dX12_twoOf_231
                · have h := sh_f c18 h
                  by_cases c21 : x0 = (45 : Int32)
                  · have h := sh_t c21 h
                    refine lv_tableIn (off := 123) (tgt := 124) hx hb dX12_twoOf_1 (by rw [c21]; decide) (by rw [c21]; decide) (by rw [c21]; rfl) (by decide) ?_
                    refine lv_iload_n hx hb dX12_twoOf_124 rfl (lv_at hl 1 rfl) ?_
                    refine lv_iload_n hx hb dX12_twoOf_125 rfl (lv_at hl 2 rfl) ?_
                    refine lv_isub hx hb dX12_twoOf_126 ?_
                    exact tb_iretO h hx hb hr hS hW hlk dX12_twoOf_127
                  · have h := sh_f c21 h
                    by_cases c22 : x0 = (46 : Int32)
                    · have h := sh_t c22 h
                      refine lv_tableIn (off := 217) (tgt := 218) hx hb dX12_twoOf_1 (by rw [c22]; decide) (by rw [c22]; decide) (by rw [c22]; rfl) (by decide) ?_
                      refine lv_iload_n hx hb dX12_twoOf_218 rfl (lv_at hl 1 rfl) ?_
                      refine lv_if_ne (tgt := 226) hx hb dX12_twoOf_219 (by decide) (fun c23 => ?_) (fun c23 => ?_)
                      · have h := sh_f c23 h
                        refine lv_iconst (v := (1 : Int32)) hx hb dX12_twoOf_226 (by decide) ?_
                        refine lv_goto (tgt := 231) hx hb dX12_twoOf_227 (by decide) ?_
                        exact tb_iretO h hx hb hr hS hW hlk dX12_twoOf_231
                      · have h := sh_t c23 h
                        refine lv_iload_n hx hb dX12_twoOf_222 rfl (lv_at hl 2 rfl) ?_
                        refine lv_if_eq (tgt := 230) hx hb dX12_twoOf_223 (by decide) (fun c24 => ?_) (fun c24 => ?_)
                        · have h := sh_t c24 h
                          refine lv_iconst (v := (0 : Int32)) hx hb dX12_twoOf_230 (by decide) ?_
                          exact tb_iretO h hx hb hr hS hW hlk dX12_twoOf_231
                        · have h := sh_f c24 h
                          refine lv_iconst (v := (1 : Int32)) hx hb dX12_twoOf_226 (by decide) ?_
                          refine lv_goto (tgt := 231) hx hb dX12_twoOf_227 (by decide) ?_
                          exact tb_iretO h hx hb hr hS hW hlk dX12_twoOf_231
                    · have h := sh_f c22 h
                      by_cases c25 : x0 = (47 : Int32)
                      · have h := sh_t c25 h
                        refine lv_tableIn (off := 131) (tgt := 132) hx hb dX12_twoOf_1 (by rw [c25]; decide) (by rw [c25]; decide) (by rw [c25]; rfl) (by decide) ?_
                        refine lv_iload_n hx hb dX12_twoOf_132 rfl (lv_at hl 2 rfl) ?_
                        refine lv_if_ne (tgt := 140) hx hb dX12_twoOf_133 (by decide) (fun c26 => ?_) (fun c26 => ?_)
                        · have h := sh_f c26 h
                          refine lv_iload_n hx hb dX12_twoOf_140 rfl (lv_at hl 2 rfl) ?_
                          refine lv_iconst (v := (-1 : Int32)) hx hb dX12_twoOf_141 (by decide) ?_
                          refine lv_icmp_ne (tgt := 150) hx hb dX12_twoOf_142 (by decide) (fun c27 => ?_) (fun c27 => ?_)
                          · have h := sh_f c27 h
                            refine lv_iload_n hx hb dX12_twoOf_150 rfl (lv_at hl 1 rfl) ?_
                            refine lv_iload_n hx hb dX12_twoOf_151 rfl (lv_at hl 2 rfl) ?_
                            obtain ⟨hne, h⟩ := nzI_a h
                            refine lv_idiv hx hb dX12_twoOf_152 hne ?_
                            exact tb_iretO h hx hb hr hS hW hlk dX12_twoOf_153
                          · have h := sh_t c27 h
                            refine lv_iload_n hx hb dX12_twoOf_145 rfl (lv_at hl 1 rfl) ?_
                            refine lv_ineg hx hb dX12_twoOf_146 ?_
                            refine lv_goto (tgt := 153) hx hb dX12_twoOf_147 (by decide) ?_
                            exact tb_iretO h hx hb hr hS hW hlk dX12_twoOf_153
                        · have h := sh_t c26 h
                          refine lv_iconst (v := (0 : Int32)) hx hb dX12_twoOf_136 (by decide) ?_
                          refine lv_goto (tgt := 153) hx hb dX12_twoOf_137 (by decide) ?_
                          exact tb_iretO h hx hb hr hS hW hlk dX12_twoOf_153
                      · have h := sh_f c25 h
                        by_cases c28 : x0 = (48 : Int32)
                        · have h := sh_t c28 h
                          refine lv_tableIn (off := 217) (tgt := 218) hx hb dX12_twoOf_1 (by rw [c28]; decide) (by rw [c28]; decide) (by rw [c28]; rfl) (by decide) ?_
                          refine lv_iload_n hx hb dX12_twoOf_218 rfl (lv_at hl 1 rfl) ?_
                          refine lv_if_ne (tgt := 226) hx hb dX12_twoOf_219 (by decide) (fun c29 => ?_) (fun c29 => ?_)
                          · have h := sh_f c29 h
                            refine lv_iconst (v := (1 : Int32)) hx hb dX12_twoOf_226 (by decide) ?_
                            refine lv_goto (tgt := 231) hx hb dX12_twoOf_227 (by decide) ?_
                            exact tb_iretO h hx hb hr hS hW hlk dX12_twoOf_231
                          · have h := sh_t c29 h
                            refine lv_iload_n hx hb dX12_twoOf_222 rfl (lv_at hl 2 rfl) ?_
                            refine lv_if_eq (tgt := 230) hx hb dX12_twoOf_223 (by decide) (fun c30 => ?_) (fun c30 => ?_)
                            · have h := sh_t c30 h
                              refine lv_iconst (v := (0 : Int32)) hx hb dX12_twoOf_230 (by decide) ?_
                              exact tb_iretO h hx hb hr hS hW hlk dX12_twoOf_231
                            · have h := sh_f c30 h
                              refine lv_iconst (v := (1 : Int32)) hx hb dX12_twoOf_226 (by decide) ?_
                              refine lv_goto (tgt := 231) hx hb dX12_twoOf_227 (by decide) ?_
                              exact tb_iretO h hx hb hr hS hW hlk dX12_twoOf_231
                        · have h := sh_f c28 h
                          by_cases c31 : x0 = (49 : Int32)
                          · have h := sh_t c31 h
                            refine lv_tableIn (off := 217) (tgt := 218) hx hb dX12_twoOf_1 (by rw [c31]; decide) (by rw [c31]; decide) (by rw [c31]; rfl) (by decide) ?_
                            refine lv_iload_n hx hb dX12_twoOf_218 rfl (lv_at hl 1 rfl) ?_
                            refine lv_if_ne (tgt := 226) hx hb dX12_twoOf_219 (by decide) (fun c32 => ?_) (fun c32 => ?_)
                            · have h := sh_f c32 h
                              refine lv_iconst (v := (1 : Int32)) hx hb dX12_twoOf_226 (by decide) ?_
                              refine lv_goto (tgt := 231) hx hb dX12_twoOf_227 (by decide) ?_
                              exact tb_iretO h hx hb hr hS hW hlk dX12_twoOf_231
                            · have h := sh_t c32 h
                              refine lv_iload_n hx hb dX12_twoOf_222 rfl (lv_at hl 2 rfl) ?_
                              refine lv_if_eq (tgt := 230) hx hb dX12_twoOf_223 (by decide) (fun c33 => ?_) (fun c33 => ?_)
                              · have h := sh_t c33 h
                                refine lv_iconst (v := (0 : Int32)) hx hb dX12_twoOf_230 (by decide) ?_
                                exact tb_iretO h hx hb hr hS hW hlk dX12_twoOf_231
                              · have h := sh_f c33 h
                                refine lv_iconst (v := (1 : Int32)) hx hb dX12_twoOf_226 (by decide) ?_
                                refine lv_goto (tgt := 231) hx hb dX12_twoOf_227 (by decide) ?_
                                exact tb_iretO h hx hb hr hS hW hlk dX12_twoOf_231
                          · have h := sh_f c31 h
                            by_cases c34 : x0 = (50 : Int32)
                            · have h := sh_t c34 h
                              refine lv_tableIn (off := 217) (tgt := 218) hx hb dX12_twoOf_1 (by rw [c34]; decide) (by rw [c34]; decide) (by rw [c34]; rfl) (by decide) ?_
                              refine lv_iload_n hx hb dX12_twoOf_218 rfl (lv_at hl 1 rfl) ?_
                              refine lv_if_ne (tgt := 226) hx hb dX12_twoOf_219 (by decide) (fun c35 => ?_) (fun c35 => ?_)
                              · have h := sh_f c35 h
                                refine lv_iconst (v := (1 : Int32)) hx hb dX12_twoOf_226 (by decide) ?_
                                refine lv_goto (tgt := 231) hx hb dX12_twoOf_227 (by decide) ?_
                                exact tb_iretO h hx hb hr hS hW hlk dX12_twoOf_231
                              · have h := sh_t c35 h
                                refine lv_iload_n hx hb dX12_twoOf_222 rfl (lv_at hl 2 rfl) ?_
                                refine lv_if_eq (tgt := 230) hx hb dX12_twoOf_223 (by decide) (fun c36 => ?_) (fun c36 => ?_)
                                · have h := sh_t c36 h
                                  refine lv_iconst (v := (0 : Int32)) hx hb dX12_twoOf_230 (by decide) ?_
                                  exact tb_iretO h hx hb hr hS hW hlk dX12_twoOf_231
                                · have h := sh_f c36 h
                                  refine lv_iconst (v := (1 : Int32)) hx hb dX12_twoOf_226 (by decide) ?_
                                  refine lv_goto (tgt := 231) hx hb dX12_twoOf_227 (by decide) ?_
                                  exact tb_iretO h hx hb hr hS hW hlk dX12_twoOf_231
                            · have h := sh_f c34 h
                              by_cases c37 : x0 = (51 : Int32)
                              · have h := sh_t c37 h
                                refine lv_tableIn (off := 217) (tgt := 218) hx hb dX12_twoOf_1 (by rw [c37]; decide) (by rw [c37]; decide) (by rw [c37]; rfl) (by decide) ?_
                                refine lv_iload_n hx hb dX12_twoOf_218 rfl (lv_at hl 1 rfl) ?_
                                refine lv_if_ne (tgt := 226) hx hb dX12_twoOf_219 (by decide) (fun c38 => ?_) (fun c38 => ?_)
                                · have h := sh_f c38 h
                                  refine lv_iconst (v := (1 : Int32)) hx hb dX12_twoOf_226 (by decide) ?_
                                  refine lv_goto (tgt := 231) hx hb dX12_twoOf_227 (by decide) ?_
                                  exact tb_iretO h hx hb hr hS hW hlk dX12_twoOf_231
                                · have h := sh_t c38 h
                                  refine lv_iload_n hx hb dX12_twoOf_222 rfl (lv_at hl 2 rfl) ?_
                                  refine lv_if_eq (tgt := 230) hx hb dX12_twoOf_223 (by decide) (fun c39 => ?_) (fun c39 => ?_)
                                  · have h := sh_t c39 h
                                    refine lv_iconst (v := (0 : Int32)) hx hb dX12_twoOf_230 (by decide) ?_
                                    exact tb_iretO h hx hb hr hS hW hlk dX12_twoOf_231
                                  · have h := sh_f c39 h
                                    refine lv_iconst (v := (1 : Int32)) hx hb dX12_twoOf_226 (by decide) ?_
                                    refine lv_goto (tgt := 231) hx hb dX12_twoOf_227 (by decide) ?_
                                    exact tb_iretO h hx hb hr hS hW hlk dX12_twoOf_231
                              · have h := sh_f c37 h
                                by_cases c40 : x0 = (52 : Int32)
                                · have h := sh_t c40 h
                                  refine lv_tableIn (off := 217) (tgt := 218) hx hb dX12_twoOf_1 (by rw [c40]; decide) (by rw [c40]; decide) (by rw [c40]; rfl) (by decide) ?_
                                  refine lv_iload_n hx hb dX12_twoOf_218 rfl (lv_at hl 1 rfl) ?_
                                  refine lv_if_ne (tgt := 226) hx hb dX12_twoOf_219 (by decide) (fun c41 => ?_) (fun c41 => ?_)
                                  · have h := sh_f c41 h
                                    refine lv_iconst (v := (1 : Int32)) hx hb dX12_twoOf_226 (by decide) ?_
                                    refine lv_goto (tgt := 231) hx hb dX12_twoOf_227 (by decide) ?_
                                    exact tb_iretO h hx hb hr hS hW hlk dX12_twoOf_231
                                  · have h := sh_t c41 h
                                    refine lv_iload_n hx hb dX12_twoOf_222 rfl (lv_at hl 2 rfl) ?_
                                    refine lv_if_eq (tgt := 230) hx hb dX12_twoOf_223 (by decide) (fun c42 => ?_) (fun c42 => ?_)
                                    · have h := sh_t c42 h
                                      refine lv_iconst (v := (0 : Int32)) hx hb dX12_twoOf_230 (by decide) ?_
                                      exact tb_iretO h hx hb hr hS hW hlk dX12_twoOf_231
                                    · have h := sh_f c42 h
                                      refine lv_iconst (v := (1 : Int32)) hx hb dX12_twoOf_226 (by decide) ?_
                                      refine lv_goto (tgt := 231) hx hb dX12_twoOf_227 (by decide) ?_
                                      exact tb_iretO h hx hb hr hS hW hlk dX12_twoOf_231
                                · have h := sh_f c40 h
                                  by_cases c43 : x0 = (53 : Int32)
                                  · have h := sh_t c43 h
                                    refine lv_tableIn (off := 217) (tgt := 218) hx hb dX12_twoOf_1 (by rw [c43]; decide) (by rw [c43]; decide) (by rw [c43]; rfl) (by decide) ?_
                                    refine lv_iload_n hx hb dX12_twoOf_218 rfl (lv_at hl 1 rfl) ?_
                                    refine lv_if_ne (tgt := 226) hx hb dX12_twoOf_219 (by decide) (fun c44 => ?_) (fun c44 => ?_)
                                    · have h := sh_f c44 h
                                      refine lv_iconst (v := (1 : Int32)) hx hb dX12_twoOf_226 (by decide) ?_
                                      refine lv_goto (tgt := 231) hx hb dX12_twoOf_227 (by decide) ?_
                                      exact tb_iretO h hx hb hr hS hW hlk dX12_twoOf_231
                                    · have h := sh_t c44 h
                                      refine lv_iload_n hx hb dX12_twoOf_222 rfl (lv_at hl 2 rfl) ?_
                                      refine lv_if_eq (tgt := 230) hx hb dX12_twoOf_223 (by decide) (fun c45 => ?_) (fun c45 => ?_)
                                      · have h := sh_t c45 h
                                        refine lv_iconst (v := (0 : Int32)) hx hb dX12_twoOf_230 (by decide) ?_
                                        exact tb_iretO h hx hb hr hS hW hlk dX12_twoOf_231
                                      · have h := sh_f c45 h
                                        refine lv_iconst (v := (1 : Int32)) hx hb dX12_twoOf_226 (by decide) ?_
                                        refine lv_goto (tgt := 231) hx hb dX12_twoOf_227 (by decide) ?_
                                        exact tb_iretO h hx hb hr hS hW hlk dX12_twoOf_231
                                  · have h := sh_f c43 h
                                    by_cases c46 : x0 = (54 : Int32)
                                    · have h := sh_t c46 h
                                      refine lv_tableIn (off := 217) (tgt := 218) hx hb dX12_twoOf_1 (by rw [c46]; decide) (by rw [c46]; decide) (by rw [c46]; rfl) (by decide) ?_
                                      refine lv_iload_n hx hb dX12_twoOf_218 rfl (lv_at hl 1 rfl) ?_
                                      refine lv_if_ne (tgt := 226) hx hb dX12_twoOf_219 (by decide) (fun c47 => ?_) (fun c47 => ?_)
                                      · have h := sh_f c47 h
                                        refine lv_iconst (v := (1 : Int32)) hx hb dX12_twoOf_226 (by decide) ?_
                                        refine lv_goto (tgt := 231) hx hb dX12_twoOf_227 (by decide) ?_
                                        exact tb_iretO h hx hb hr hS hW hlk dX12_twoOf_231
                                      · have h := sh_t c47 h
                                        refine lv_iload_n hx hb dX12_twoOf_222 rfl (lv_at hl 2 rfl) ?_
                                        refine lv_if_eq (tgt := 230) hx hb dX12_twoOf_223 (by decide) (fun c48 => ?_) (fun c48 => ?_)
                                        · have h := sh_t c48 h
                                          refine lv_iconst (v := (0 : Int32)) hx hb dX12_twoOf_230 (by decide) ?_
                                          exact tb_iretO h hx hb hr hS hW hlk dX12_twoOf_231
                                        · have h := sh_f c48 h
                                          refine lv_iconst (v := (1 : Int32)) hx hb dX12_twoOf_226 (by decide) ?_
                                          refine lv_goto (tgt := 231) hx hb dX12_twoOf_227 (by decide) ?_
                                          exact tb_iretO h hx hb hr hS hW hlk dX12_twoOf_231
                                    · have h := sh_f c46 h
                                      by_cases c49 : x0 = (55 : Int32)
                                      · have h := sh_t c49 h
                                        refine lv_tableIn (off := 217) (tgt := 218) hx hb dX12_twoOf_1 (by rw [c49]; decide) (by rw [c49]; decide) (by rw [c49]; rfl) (by decide) ?_
                                        refine lv_iload_n hx hb dX12_twoOf_218 rfl (lv_at hl 1 rfl) ?_
                                        refine lv_if_ne (tgt := 226) hx hb dX12_twoOf_219 (by decide) (fun c50 => ?_) (fun c50 => ?_)
                                        · have h := sh_f c50 h
                                          refine lv_iconst (v := (1 : Int32)) hx hb dX12_twoOf_226 (by decide) ?_
                                          refine lv_goto (tgt := 231) hx hb dX12_twoOf_227 (by decide) ?_
                                          exact tb_iretO h hx hb hr hS hW hlk dX12_twoOf_231
                                        · have h := sh_t c50 h
                                          refine lv_iload_n hx hb dX12_twoOf_222 rfl (lv_at hl 2 rfl) ?_
                                          refine lv_if_eq (tgt := 230) hx hb dX12_twoOf_223 (by decide) (fun c51 => ?_) (fun c51 => ?_)
                                          · have h := sh_t c51 h
                                            refine lv_iconst (v := (0 : Int32)) hx hb dX12_twoOf_230 (by decide) ?_
                                            exact tb_iretO h hx hb hr hS hW hlk dX12_twoOf_231
                                          · have h := sh_f c51 h
                                            refine lv_iconst (v := (1 : Int32)) hx hb dX12_twoOf_226 (by decide) ?_
                                            refine lv_goto (tgt := 231) hx hb dX12_twoOf_227 (by decide) ?_
                                            exact tb_iretO h hx hb hr hS hW hlk dX12_twoOf_231
                                      · have h := sh_f c49 h
                                        by_cases c52 : x0 = (56 : Int32)
                                        · have h := sh_t c52 h
                                          refine lv_tableIn (off := 217) (tgt := 218) hx hb dX12_twoOf_1 (by rw [c52]; decide) (by rw [c52]; decide) (by rw [c52]; rfl) (by decide) ?_
                                          refine lv_iload_n hx hb dX12_twoOf_218 rfl (lv_at hl 1 rfl) ?_
                                          refine lv_if_ne (tgt := 226) hx hb dX12_twoOf_219 (by decide) (fun c53 => ?_) (fun c53 => ?_)
                                          · have h := sh_f c53 h
                                            refine lv_iconst (v := (1 : Int32)) hx hb dX12_twoOf_226 (by decide) ?_
                                            refine lv_goto (tgt := 231) hx hb dX12_twoOf_227 (by decide) ?_
                                            exact tb_iretO h hx hb hr hS hW hlk dX12_twoOf_231
                                          · have h := sh_t c53 h
                                            refine lv_iload_n hx hb dX12_twoOf_222 rfl (lv_at hl 2 rfl) ?_
                                            refine lv_if_eq (tgt := 230) hx hb dX12_twoOf_223 (by decide) (fun c54 => ?_) (fun c54 => ?_)
                                            · have h := sh_t c54 h
                                              refine lv_iconst (v := (0 : Int32)) hx hb dX12_twoOf_230 (by decide) ?_
                                              exact tb_iretO h hx hb hr hS hW hlk dX12_twoOf_231
                                            · have h := sh_f c54 h
                                              refine lv_iconst (v := (1 : Int32)) hx hb dX12_twoOf_226 (by decide) ?_
                                              refine lv_goto (tgt := 231) hx hb dX12_twoOf_227 (by decide) ?_
                                              exact tb_iretO h hx hb hr hS hW hlk dX12_twoOf_231
                                        · have h := sh_f c52 h
                                          by_cases c55 : x0 = (57 : Int32)
                                          · have h := sh_t c55 h
                                            refine lv_tableIn (off := 217) (tgt := 218) hx hb dX12_twoOf_1 (by rw [c55]; decide) (by rw [c55]; decide) (by rw [c55]; rfl) (by decide) ?_
                                            refine lv_iload_n hx hb dX12_twoOf_218 rfl (lv_at hl 1 rfl) ?_
                                            refine lv_if_ne (tgt := 226) hx hb dX12_twoOf_219 (by decide) (fun c56 => ?_) (fun c56 => ?_)
                                            · have h := sh_f c56 h
                                              refine lv_iconst (v := (1 : Int32)) hx hb dX12_twoOf_226 (by decide) ?_
                                              refine lv_goto (tgt := 231) hx hb dX12_twoOf_227 (by decide) ?_
                                              exact tb_iretO h hx hb hr hS hW hlk dX12_twoOf_231
                                            · have h := sh_t c56 h
                                              refine lv_iload_n hx hb dX12_twoOf_222 rfl (lv_at hl 2 rfl) ?_
                                              refine lv_if_eq (tgt := 230) hx hb dX12_twoOf_223 (by decide) (fun c57 => ?_) (fun c57 => ?_)
                                              · have h := sh_t c57 h
                                                refine lv_iconst (v := (0 : Int32)) hx hb dX12_twoOf_230 (by decide) ?_
                                                exact tb_iretO h hx hb hr hS hW hlk dX12_twoOf_231
                                              · have h := sh_f c57 h
                                                refine lv_iconst (v := (1 : Int32)) hx hb dX12_twoOf_226 (by decide) ?_
                                                refine lv_goto (tgt := 231) hx hb dX12_twoOf_227 (by decide) ?_
                                                exact tb_iretO h hx hb hr hS hW hlk dX12_twoOf_231
                                          · have h := sh_f c55 h
                                            by_cases c58 : x0 = (58 : Int32)
                                            · have h := sh_t c58 h
                                              refine lv_tableIn (off := 217) (tgt := 218) hx hb dX12_twoOf_1 (by rw [c58]; decide) (by rw [c58]; decide) (by rw [c58]; rfl) (by decide) ?_
                                              refine lv_iload_n hx hb dX12_twoOf_218 rfl (lv_at hl 1 rfl) ?_
                                              refine lv_if_ne (tgt := 226) hx hb dX12_twoOf_219 (by decide) (fun c59 => ?_) (fun c59 => ?_)
                                              · have h := sh_f c59 h
                                                refine lv_iconst (v := (1 : Int32)) hx hb dX12_twoOf_226 (by decide) ?_
                                                refine lv_goto (tgt := 231) hx hb dX12_twoOf_227 (by decide) ?_
                                                exact tb_iretO h hx hb hr hS hW hlk dX12_twoOf_231
                                              · have h := sh_t c59 h
                                                refine lv_iload_n hx hb dX12_twoOf_222 rfl (lv_at hl 2 rfl) ?_
                                                refine lv_if_eq (tgt := 230) hx hb dX12_twoOf_223 (by decide) (fun c60 => ?_) (fun c60 => ?_)
                                                · have h := sh_t c60 h
                                                  refine lv_iconst (v := (0 : Int32)) hx hb dX12_twoOf_230 (by decide) ?_
                                                  exact tb_iretO h hx hb hr hS hW hlk dX12_twoOf_231
                                                · have h := sh_f c60 h
                                                  refine lv_iconst (v := (1 : Int32)) hx hb dX12_twoOf_226 (by decide) ?_
                                                  refine lv_goto (tgt := 231) hx hb dX12_twoOf_227 (by decide) ?_
                                                  exact tb_iretO h hx hb hr hS hW hlk dX12_twoOf_231
                                            · have h := sh_f c58 h
                                              by_cases c61 : x0 = (59 : Int32)
                                              · have h := sh_t c61 h
                                                refine lv_tableIn (off := 217) (tgt := 218) hx hb dX12_twoOf_1 (by rw [c61]; decide) (by rw [c61]; decide) (by rw [c61]; rfl) (by decide) ?_
                                                refine lv_iload_n hx hb dX12_twoOf_218 rfl (lv_at hl 1 rfl) ?_
                                                refine lv_if_ne (tgt := 226) hx hb dX12_twoOf_219 (by decide) (fun c62 => ?_) (fun c62 => ?_)
                                                · have h := sh_f c62 h
                                                  refine lv_iconst (v := (1 : Int32)) hx hb dX12_twoOf_226 (by decide) ?_
                                                  refine lv_goto (tgt := 231) hx hb dX12_twoOf_227 (by decide) ?_
                                                  exact tb_iretO h hx hb hr hS hW hlk dX12_twoOf_231
                                                · have h := sh_t c62 h
                                                  refine lv_iload_n hx hb dX12_twoOf_222 rfl (lv_at hl 2 rfl) ?_
                                                  refine lv_if_eq (tgt := 230) hx hb dX12_twoOf_223 (by decide) (fun c63 => ?_) (fun c63 => ?_)
                                                  · have h := sh_t c63 h
                                                    refine lv_iconst (v := (0 : Int32)) hx hb dX12_twoOf_230 (by decide) ?_
                                                    exact tb_iretO h hx hb hr hS hW hlk dX12_twoOf_231
                                                  · have h := sh_f c63 h
                                                    refine lv_iconst (v := (1 : Int32)) hx hb dX12_twoOf_226 (by decide) ?_
                                                    refine lv_goto (tgt := 231) hx hb dX12_twoOf_227 (by decide) ?_
                                                    exact tb_iretO h hx hb hr hS hW hlk dX12_twoOf_231
                                              · have h := sh_f c61 h
                                                by_cases c64 : x0 = (60 : Int32)
                                                · have h := sh_t c64 h
                                                  refine lv_tableIn (off := 170) (tgt := 171) hx hb dX12_twoOf_1 (by rw [c64]; decide) (by rw [c64]; decide) (by rw [c64]; rfl) (by decide) ?_
                                                  refine lv_iload_n hx hb dX12_twoOf_171 rfl (lv_at hl 1 rfl) ?_
                                                  refine lv_iload_n hx hb dX12_twoOf_172 rfl (lv_at hl 2 rfl) ?_
                                                  refine lv_icmp_ge (tgt := 180) hx hb dX12_twoOf_173 (by decide) (fun c65 => ?_) (fun c65 => ?_)
                                                  · have h := sh_t c65 h
                                                    refine lv_iconst (v := (0 : Int32)) hx hb dX12_twoOf_180 (by decide) ?_
                                                    exact tb_iretO h hx hb hr hS hW hlk dX12_twoOf_181
                                                  · have h := sh_f c65 h
                                                    refine lv_iconst (v := (1 : Int32)) hx hb dX12_twoOf_176 (by decide) ?_
                                                    refine lv_goto (tgt := 181) hx hb dX12_twoOf_177 (by decide) ?_
                                                    exact tb_iretO h hx hb hr hS hW hlk dX12_twoOf_181
                                                · have h := sh_f c64 h
                                                  by_cases c66 : x0 = (61 : Int32)
                                                  · have h := sh_t c66 h
                                                    refine lv_tableIn (off := 181) (tgt := 182) hx hb dX12_twoOf_1 (by rw [c66]; decide) (by rw [c66]; decide) (by rw [c66]; rfl) (by decide) ?_
                                                    refine lv_iload_n hx hb dX12_twoOf_182 rfl (lv_at hl 1 rfl) ?_
                                                    refine lv_iload_n hx hb dX12_twoOf_183 rfl (lv_at hl 2 rfl) ?_
                                                    refine lv_icmp_ne (tgt := 191) hx hb dX12_twoOf_184 (by decide) (fun c67 => ?_) (fun c67 => ?_)
                                                    · have h := sh_f c67 h
                                                      refine lv_iconst (v := (0 : Int32)) hx hb dX12_twoOf_191 (by decide) ?_
                                                      exact tb_iretO h hx hb hr hS hW hlk dX12_twoOf_192
                                                    · have h := sh_t c67 h
                                                      refine lv_iconst (v := (1 : Int32)) hx hb dX12_twoOf_187 (by decide) ?_
                                                      refine lv_goto (tgt := 192) hx hb dX12_twoOf_188 (by decide) ?_
                                                      exact tb_iretO h hx hb hr hS hW hlk dX12_twoOf_192
                                                  · have h := sh_f c66 h
                                                    by_cases c68 : x0 = (62 : Int32)
                                                    · have h := sh_t c68 h
                                                      refine lv_tableIn (off := 192) (tgt := 193) hx hb dX12_twoOf_1 (by rw [c68]; decide) (by rw [c68]; decide) (by rw [c68]; rfl) (by decide) ?_
                                                      refine lv_iload_n hx hb dX12_twoOf_193 rfl (lv_at hl 1 rfl) ?_
                                                      refine lv_iload_n hx hb dX12_twoOf_194 rfl (lv_at hl 2 rfl) ?_
                                                      refine lv_icmp_le (tgt := 202) hx hb dX12_twoOf_195 (by decide) (fun c69 => ?_) (fun c69 => ?_)
                                                      · have h := sh_t c69 h
                                                        refine lv_iconst (v := (0 : Int32)) hx hb dX12_twoOf_202 (by decide) ?_
                                                        exact tb_iretO h hx hb hr hS hW hlk dX12_twoOf_203
                                                      · have h := sh_f c69 h
                                                        refine lv_iconst (v := (1 : Int32)) hx hb dX12_twoOf_198 (by decide) ?_
                                                        refine lv_goto (tgt := 203) hx hb dX12_twoOf_199 (by decide) ?_
                                                        exact tb_iretO h hx hb hr hS hW hlk dX12_twoOf_203
                                                    · have h := sh_f c68 h
                                                      refine lv_tableOut (tgt := 218) hx hb dX12_twoOf_1 (sw_out x0 (by decide) (fun z h1 h2 => by
                                                        rcases (show z = 37 ∨ z = 38 ∨ z = 39 ∨ z = 40 ∨ z = 41 ∨ z = 42 ∨ z = 43 ∨ z = 44 ∨ z = 45 ∨ z = 46 ∨ z = 47 ∨ z = 48 ∨ z = 49 ∨ z = 50 ∨ z = 51 ∨ z = 52 ∨ z = 53 ∨ z = 54 ∨ z = 55 ∨ z = 56 ∨ z = 57 ∨ z = 58 ∨ z = 59 ∨ z = 60 ∨ z = 61 ∨ z = 62 by omega) with rfl | rfl | rfl | rfl | rfl | rfl | rfl | rfl | rfl | rfl | rfl | rfl | rfl | rfl | rfl | rfl | rfl | rfl | rfl | rfl | rfl | rfl | rfl | rfl | rfl | rfl <;> first | exact fun e => c1 (Int32.toInt_inj.mp (e.trans (by decide))) | exact fun e => c4 (Int32.toInt_inj.mp (e.trans (by decide))) | exact fun e => c7 (Int32.toInt_inj.mp (e.trans (by decide))) | exact fun e => c10 (Int32.toInt_inj.mp (e.trans (by decide))) | exact fun e => c13 (Int32.toInt_inj.mp (e.trans (by decide))) | exact fun e => c16 (Int32.toInt_inj.mp (e.trans (by decide))) | exact fun e => c17 (Int32.toInt_inj.mp (e.trans (by decide))) | exact fun e => c18 (Int32.toInt_inj.mp (e.trans (by decide))) | exact fun e => c21 (Int32.toInt_inj.mp (e.trans (by decide))) | exact fun e => c22 (Int32.toInt_inj.mp (e.trans (by decide))) | exact fun e => c25 (Int32.toInt_inj.mp (e.trans (by decide))) | exact fun e => c28 (Int32.toInt_inj.mp (e.trans (by decide))) | exact fun e => c31 (Int32.toInt_inj.mp (e.trans (by decide))) | exact fun e => c34 (Int32.toInt_inj.mp (e.trans (by decide))) | exact fun e => c37 (Int32.toInt_inj.mp (e.trans (by decide))) | exact fun e => c40 (Int32.toInt_inj.mp (e.trans (by decide))) | exact fun e => c43 (Int32.toInt_inj.mp (e.trans (by decide))) | exact fun e => c46 (Int32.toInt_inj.mp (e.trans (by decide))) | exact fun e => c49 (Int32.toInt_inj.mp (e.trans (by decide))) | exact fun e => c52 (Int32.toInt_inj.mp (e.trans (by decide))) | exact fun e => c55 (Int32.toInt_inj.mp (e.trans (by decide))) | exact fun e => c58 (Int32.toInt_inj.mp (e.trans (by decide))) | exact fun e => c61 (Int32.toInt_inj.mp (e.trans (by decide))) | exact fun e => c64 (Int32.toInt_inj.mp (e.trans (by decide))) | exact fun e => c66 (Int32.toInt_inj.mp (e.trans (by decide))) | exact fun e => c68 (Int32.toInt_inj.mp (e.trans (by decide))))) (by decide) ?_
                                                      refine lv_iload_n hx hb dX12_twoOf_218 rfl (lv_at hl 1 rfl) ?_
                                                      refine lv_if_ne (tgt := 226) hx hb dX12_twoOf_219 (by decide) (fun c70 => ?_) (fun c70 => ?_)
                                                      · have h := sh_f c70 h
                                                        refine lv_iconst (v := (1 : Int32)) hx hb dX12_twoOf_226 (by decide) ?_
                                                        refine lv_goto (tgt := 231) hx hb dX12_twoOf_227 (by decide) ?_
                                                        exact tb_iretO h hx hb hr hS hW hlk dX12_twoOf_231
                                                      · have h := sh_t c70 h
                                                        refine lv_iload_n hx hb dX12_twoOf_222 rfl (lv_at hl 2 rfl) ?_
                                                        refine lv_if_eq (tgt := 230) hx hb dX12_twoOf_223 (by decide) (fun c71 => ?_) (fun c71 => ?_)
                                                        · have h := sh_t c71 h
                                                          refine lv_iconst (v := (0 : Int32)) hx hb dX12_twoOf_230 (by decide) ?_
                                                          exact tb_iretO h hx hb hr hS hW hlk dX12_twoOf_231
                                                        · have h := sh_f c71 h
                                                          refine lv_iconst (v := (1 : Int32)) hx hb dX12_twoOf_226 (by decide) ?_
                                                          refine lv_goto (tgt := 231) hx hb dX12_twoOf_227 (by decide) ?_
                                                          exact tb_iretO h hx hb hr hS hW hlk dX12_twoOf_231
def fX12_worked_b12 (x1 : Int32) (x3 : Int32) (k2 : Int32 → Int32 → Mem → Option (Int32 × Mem)) (i3 : Int32) (i4 : Int32) (M5 : Mem) : Option (Int32 × Mem) :=
  if (((130 : Int32) * x1) + x3) ≤ i4 then (some (mgI M5 8300 0 (0 : Int32).toNatClampNeg, M5)) else (ix i4 390 <| nm (mgI M5 7700 0 i4.toNatClampNeg) fun v7 => if v7 = (1 : Int32) then (if v7 = (1 : Int32) then (ix i4 390 <| nm (mgI M5 7800 0 i4.toNatClampNeg) fun v14 => ix i3 130 <| nm (msI M5 8300 0 i3.toNatClampNeg v14) fun M15 => nm (i3 + (1 : Int32)) fun v16 => nm (i4 + (1 : Int32)) fun v17 => k2 v16 v17 M15) else (ix i4 390 <| ix (mgI M5 7800 0 i4.toNatClampNeg) 7 <| nm (mgI M5 8200 0 (mgI M5 7800 0 i4.toNatClampNeg).toNatClampNeg) fun v10 => ix i3 130 <| nm (msI M5 8300 0 i3.toNatClampNeg v10) fun M11 => nm (i3 + (1 : Int32)) fun v12 => nm (i4 + (1 : Int32)) fun v13 => k2 v12 v13 M11)) else (if v7 = (2 : Int32) then (if v7 = (1 : Int32) then (ix i4 390 <| nm (mgI M5 7800 0 i4.toNatClampNeg) fun v38 => ix i3 130 <| nm (msI M5 8300 0 i3.toNatClampNeg v38) fun M39 => nm (i3 + (1 : Int32)) fun v40 => nm (i4 + (1 : Int32)) fun v41 => k2 v40 v41 M39) else (ix i4 390 <| ix (mgI M5 7800 0 i4.toNatClampNeg) 7 <| nm (mgI M5 8200 0 (mgI M5 7800 0 i4.toNatClampNeg).toNatClampNeg) fun v34 => ix i3 130 <| nm (msI M5 8300 0 i3.toNatClampNeg v34) fun M35 => nm (i3 + (1 : Int32)) fun v36 => nm (i4 + (1 : Int32)) fun v37 => k2 v36 v37 M35)) else (if v7 = (3 : Int32) then (ix (i3 - (1 : Int32)) 130 <| if (mgI M5 8300 0 (i3 - (1 : Int32)).toNatClampNeg) = 0 then (ix (i3 - (1 : Int32)) 130 <| nm (msI M5 8300 0 ((i3 - (1 : Int32)).toNatClampNeg) (1 : Int32)) fun M31 => nm (i4 + (1 : Int32)) fun v32 => k2 i3 v32 M31) else (ix (i3 - (1 : Int32)) 130 <| nm (msI M5 8300 0 ((i3 - (1 : Int32)).toNatClampNeg) (0 : Int32)) fun M29 => nm (i4 + (1 : Int32)) fun v30 => k2 i3 v30 M29)) else (if v7 = (4 : Int32) then (ix (i3 - (1 : Int32)) 130 <| nm (-(mgI M5 8300 0 (i3 - (1 : Int32)).toNatClampNeg)) fun v25 => ix (i3 - (1 : Int32)) 130 <| nm (msI M5 8300 0 ((i3 - (1 : Int32)).toNatClampNeg) v25) fun M26 => nm (i4 + (1 : Int32)) fun v27 => k2 i3 v27 M26) else (nm (i3 + (-1 : Int32)) fun v21 => ix (v21 - (1 : Int32)) 130 <| ix v21 130 <| bd (fX12_twoOf v7 (mgI M5 8300 0 (v21 - (1 : Int32)).toNatClampNeg) (mgI M5 8300 0 v21.toNatClampNeg)) fun b22 => ix (v21 - (1 : Int32)) 130 <| nm (msI M5 8300 0 ((v21 - (1 : Int32)).toNatClampNeg) b22) fun M23 => nm (i4 + (1 : Int32)) fun v24 => k2 v21 v24 M23)))))
def fX12_worked_l12 (x1 : Int32) (x3 : Int32) : Nat → Int32 → Int32 → Mem → Option (Int32 × Mem)
  | 0, _, _, _ => none
  | n + 1, i3, i4, M5 => fX12_worked_b12 x1 x3 (fX12_worked_l12 x1 x3 n) i3 i4 M5
def fX12_worked (x1 : Int32) (x2 : Int32) (x3 : Int32) (M0 : Mem) : Option (Int32 × Mem) :=
  nm (((130 : Int32) * x1) + x2) fun v1 => fX12_worked_l12 x1 x3 FU (0 : Int32) v1 M0
set_option maxHeartbeats 4000000 in
set_option maxRecDepth 100000 in
theorem mX12_worked {l : Launch} {D : va_G} {cy : Nat → ClassId} {A : Nat → Prop} {Z : State → Heap → Prop} {ad : Nat → Nat → Nat} (hZk : ZOK A Z) (x1 : Int32) (x2 : Int32) (x3 : Int32) (M0 : Mem) (r : Int32) (M' : Mem) (h : fX12_worked x1 x2 x3 M0 = some (r, M')) : Met l yX12_worked (wt yX12_worked cX12_worked 7 (some .int)) (rm 1 22) (CPre D cy A Z cnM ad M0 [.ref (ad 12 0), .int x1, .int x2, .int x3]) (QI D cy A cnM ad r M') 0 0 A := by
  refine tb_start [.ref (ad 12 0), .int x1, .int x2, .int x3] [(0, .ref (ad 12 0)), (1, .int x1), (2, .int x2), (3, .int x3)] RX12 rfl (by decide +kernel) (Nat.le_of_ble_eq_true rfl) rfl (fun p e s m args below meth c hx hb hr hml hown hts hlk hW hK hZ ls hl => ?_)
  have hS : va_S A s.heap s.heap [] := va_S.rf
  unfold fX12_worked at h
  refine lv_iconst (v := (0 : Int32)) hx hb dX12_worked_0 (by decide) ?_
  refine lv_istore (lv' := [(4, .int (0 : Int32)), (0, .ref (ad 12 0)), (1, .int x1), (2, .int x2), (3, .int x3)]) hx hb dX12_worked_1 hl (by decide) rfl (fun ls hl => ?_)
  refine lv_sipush (v := (130 : Int32)) hx hb dX12_worked_3 (by decide) ?_
  refine lv_iload_n hx hb dX12_worked_6 rfl (lv_at hl 2 rfl) ?_
  refine lv_imul hx hb dX12_worked_7 ?_
  refine lv_iload_n hx hb dX12_worked_8 rfl (lv_at hl 3 rfl) ?_
  refine lv_iadd hx hb dX12_worked_9 ?_
  refine lv_topi (fun v1 ev1 => ?_)
  have h := nm_a ev1 h
  refine lv_istore (lv' := [(5, .int v1), (4, .int (0 : Int32)), (0, .ref (ad 12 0)), (1, .int x1), (2, .int x2), (3, .int x3)]) hx hb dX12_worked_10 hl (by decide) rfl (fun ls hl => ?_)
  have L2 : ∀ (n2 : Nat) (i3 : Int32) (i4 : Int32) (M5 : Mem) (H : Heap) (locs : List Loc) (ls : Array Slot), Wd D cy A cnM ad M5 H → va_S A s.heap H locs → lv_has ls 7 [(0, .ref (ad 12 0)), (1, .int x1), (3, .int x3), (4, .int i3), (5, .int i4)] → fX12_worked_l12 x1 x3 n2 i3 i4 M5 = some (r, M') → W p l e (rm 1 22) s m args below meth c H locs 0 0 (MQ below (QI D cy A cnM ad r M') args s 0 0 A) (F0 m 12 ls []) := by
    intro n2
    induction n2 with
    | zero => intro i3 i4 M5 H locs ls hW hS hl h; cases h
    | succ n2 ih2 =>
      intro i3 i4 M5 H locs ls hW hS hl h
      unfold fX12_worked_l12 fX12_worked_b12 at h
      refine lv_iload hx hb dX12_worked_12 (lv_at hl 4 rfl) ?_
      refine lv_sipush (v := (130 : Int32)) hx hb dX12_worked_14 (by decide) ?_
      refine lv_iload_n hx hb dX12_worked_17 rfl (lv_at hl 1 rfl) ?_
      refine lv_imul hx hb dX12_worked_18 ?_
      refine lv_iload_n hx hb dX12_worked_19 rfl (lv_at hl 2 rfl) ?_
      refine lv_iadd hx hb dX12_worked_20 ?_
      refine lv_icmp_ge (tgt := 188) hx hb dX12_worked_21 (by decide) (fun c6 => ?_) (fun c6 => ?_)
      · have h := sh_t c6 h
        refine lv_aload_n hx hb dX12_worked_188 rfl (lv_at hl 0 rfl) ?_
        refine gtX12_113 hx hb hts hown hK hW cz12 dX12_worked_189 ?_
        refine lv_iconst (v := (0 : Int32)) hx hb dX12_worked_192 (by decide) ?_
        refine al83 hx hb hK hW cz83 (vp_in_iff.mpr (by decide)) dX12_worked_193 ?_
        exact tb_iretE h hx hb hr hS hW hlk dX12_worked_194
      · have h := sh_f c6 h
        refine lv_aload_n hx hb dX12_worked_24 rfl (lv_at hl 0 rfl) ?_
        refine gtX12_94 hx hb hts hown hK hW cz12 dX12_worked_25 ?_
        refine lv_iload hx hb dX12_worked_28 (lv_at hl 4 rfl) ?_
        obtain ⟨hj, h⟩ := ix_a h
        refine al77 hx hb hK hW cz77 hj dX12_worked_30 ?_
        refine lv_topi (fun v7 ev7 => ?_)
        have h := nm_a ev7 h
        refine lv_istore (lv' := [(6, .int v7), (0, .ref (ad 12 0)), (1, .int x1), (3, .int x3), (4, .int i3), (5, .int i4)]) hx hb dX12_worked_31 hl (by decide) rfl (fun ls hl => ?_)
        refine lv_iload hx hb dX12_worked_33 (lv_at hl 0 rfl) ?_
        refine lv_iconst (v := (1 : Int32)) hx hb dX12_worked_35 (by decide) ?_
        refine lv_icmp_eq (tgt := 45) hx hb dX12_worked_36 (by decide) (fun c8 => ?_) (fun c8 => ?_)
        · have h := sh_t c8 h
          refine lv_aload_n hx hb dX12_worked_45 rfl (lv_at hl 1 rfl) ?_
          refine gtX12_113 hx hb hts hown hK hW cz12 dX12_worked_46 ?_
          refine lv_iload hx hb dX12_worked_49 (lv_at hl 4 rfl) ?_
          refine lv_iload hx hb dX12_worked_51 (lv_at hl 0 rfl) ?_
          refine lv_iconst (v := (1 : Int32)) hx hb dX12_worked_53 (by decide) ?_
          refine lv_icmp_ne (tgt := 67) hx hb dX12_worked_54 (by decide) (fun c9 => ?_) (fun c9 => ?_)
          · have h := sh_f c9 h
            refine lv_aload_n hx hb dX12_worked_67 rfl (lv_at hl 1 rfl) ?_
            refine gtX12_110 hx hb hts hown hK hW cz12 dX12_worked_68 ?_
            refine lv_aload_n hx hb dX12_worked_71 rfl (lv_at hl 1 rfl) ?_
            refine gtX12_97 hx hb hts hown hK hW cz12 dX12_worked_72 ?_
            refine lv_iload hx hb dX12_worked_75 (lv_at hl 5 rfl) ?_
            obtain ⟨hj, h⟩ := ix_a h
            refine al78 hx hb hK hW cz78 hj dX12_worked_77 ?_
            obtain ⟨hj, h⟩ := ix_a h
            refine al82 hx hb hK hW cz82 hj dX12_worked_78 ?_
            refine lv_topi (fun v10 ev10 => ?_)
            have h := nm_a ev10 h
            obtain ⟨hj, h⟩ := ix_a h
            refine as83 hx hb hK hW hS cz83 hj dX12_worked_79 (fun H locs hW hS => ?_)
            obtain ⟨M11, eM11⟩ : ∃ y, y = msI M5 8300 0 i3.toNatClampNeg v10 := ⟨_, rfl⟩
            have h := nm_a eM11 h
            rw [← eM11] at hW
            obtain ⟨v12, ev12⟩ : ∃ y : Int32, y = i3 + (1 : Int32) := ⟨_, rfl⟩
            have h := nm_a ev12 h
            refine lv_iinc (v := v12) (lv' := [(4, .int v12), (6, .int v7), (0, .ref (ad 12 0)), (1, .int x1), (3, .int x3), (5, .int i4)]) hx hb dX12_worked_80 hl (k := 4) rfl (by rw [ev12]; rfl) (by decide) rfl (fun ls hl => ?_)
            refine lv_goto (tgt := 182) hx hb dX12_worked_83 (by decide) ?_
            obtain ⟨v13, ev13⟩ : ∃ y : Int32, y = i4 + (1 : Int32) := ⟨_, rfl⟩
            have h := nm_a ev13 h
            refine lv_iinc (v := v13) (lv' := [(5, .int v13), (4, .int v12), (6, .int v7), (0, .ref (ad 12 0)), (1, .int x1), (3, .int x3)]) hx hb dX12_worked_182 hl (k := 5) rfl (by rw [ev13]; rfl) (by decide) rfl (fun ls hl => ?_)
            refine lv_goto (tgt := 12) hx hb dX12_worked_185 (by decide) ?_
            exact ih2 v12 v13 M11 _ _ _ hW hS (lv_sub hl [3, 4, 5, 1, 0] rfl) h
          · have h := sh_t c9 h
            refine lv_aload_n hx hb dX12_worked_57 rfl (lv_at hl 1 rfl) ?_
            refine gtX12_97 hx hb hts hown hK hW cz12 dX12_worked_58 ?_
            refine lv_iload hx hb dX12_worked_61 (lv_at hl 5 rfl) ?_
            obtain ⟨hj, h⟩ := ix_a h
            refine al78 hx hb hK hW cz78 hj dX12_worked_63 ?_
            refine lv_goto (tgt := 79) hx hb dX12_worked_64 (by decide) ?_
            refine lv_topi (fun v14 ev14 => ?_)
            have h := nm_a ev14 h
            obtain ⟨hj, h⟩ := ix_a h
            refine as83 hx hb hK hW hS cz83 hj dX12_worked_79 (fun H locs hW hS => ?_)
            obtain ⟨M15, eM15⟩ : ∃ y, y = msI M5 8300 0 i3.toNatClampNeg v14 := ⟨_, rfl⟩
            have h := nm_a eM15 h
            rw [← eM15] at hW
            obtain ⟨v16, ev16⟩ : ∃ y : Int32, y = i3 + (1 : Int32) := ⟨_, rfl⟩
            have h := nm_a ev16 h
            refine lv_iinc (v := v16) (lv' := [(4, .int v16), (6, .int v7), (0, .ref (ad 12 0)), (1, .int x1), (3, .int x3), (5, .int i4)]) hx hb dX12_worked_80 hl (k := 4) rfl (by rw [ev16]; rfl) (by decide) rfl (fun ls hl => ?_)
            refine lv_goto (tgt := 182) hx hb dX12_worked_83 (by decide) ?_
            obtain ⟨v17, ev17⟩ : ∃ y : Int32, y = i4 + (1 : Int32) := ⟨_, rfl⟩
            have h := nm_a ev17 h
            refine lv_iinc (v := v17) (lv' := [(5, .int v17), (4, .int v16), (6, .int v7), (0, .ref (ad 12 0)), (1, .int x1), (3, .int x3)]) hx hb dX12_worked_182 hl (k := 5) rfl (by rw [ev17]; rfl) (by decide) rfl (fun ls hl => ?_)
            refine lv_goto (tgt := 12) hx hb dX12_worked_185 (by decide) ?_
            exact ih2 v16 v17 M15 _ _ _ hW hS (lv_sub hl [3, 4, 5, 1, 0] rfl) h
        · have h := sh_f c8 h
          refine lv_iload hx hb dX12_worked_39 (lv_at hl 0 rfl) ?_
          refine lv_iconst (v := (2 : Int32)) hx hb dX12_worked_41 (by decide) ?_
          refine lv_icmp_ne (tgt := 86) hx hb dX12_worked_42 (by decide) (fun c18 => ?_) (fun c18 => ?_)
          · have h := sh_f c18 h
            refine lv_iload hx hb dX12_worked_86 (lv_at hl 0 rfl) ?_
            refine lv_iconst (v := (3 : Int32)) hx hb dX12_worked_88 (by decide) ?_
            refine lv_icmp_ne (tgt := 121) hx hb dX12_worked_89 (by decide) (fun c19 => ?_) (fun c19 => ?_)
            · have h := sh_f c19 h
              refine lv_iload hx hb dX12_worked_121 (lv_at hl 0 rfl) ?_
              refine lv_iconst (v := (4 : Int32)) hx hb dX12_worked_123 (by decide) ?_
              refine lv_icmp_ne (tgt := 149) hx hb dX12_worked_124 (by decide) (fun c20 => ?_) (fun c20 => ?_)
              · have h := sh_f c20 h
                obtain ⟨v21, ev21⟩ : ∃ y : Int32, y = i3 + (-1 : Int32) := ⟨_, rfl⟩
                have h := nm_a ev21 h
                refine lv_iinc (v := v21) (lv' := [(4, .int v21), (6, .int v7), (0, .ref (ad 12 0)), (1, .int x1), (3, .int x3), (5, .int i4)]) hx hb dX12_worked_149 hl (k := 4) rfl (by rw [ev21]; rfl) (by decide) rfl (fun ls hl => ?_)
                refine lv_aload_n hx hb dX12_worked_152 rfl (lv_at hl 2 rfl) ?_
                refine gtX12_113 hx hb hts hown hK hW cz12 dX12_worked_153 ?_
                refine lv_iload hx hb dX12_worked_156 (lv_at hl 0 rfl) ?_
                refine lv_iconst (v := (1 : Int32)) hx hb dX12_worked_158 (by decide) ?_
                refine lv_isub hx hb dX12_worked_159 ?_
                refine lv_iload hx hb dX12_worked_160 (lv_at hl 1 rfl) ?_
                refine lv_aload_n hx hb dX12_worked_162 rfl (lv_at hl 2 rfl) ?_
                refine gtX12_113 hx hb hts hown hK hW cz12 dX12_worked_163 ?_
                refine lv_iload hx hb dX12_worked_166 (lv_at hl 0 rfl) ?_
                refine lv_iconst (v := (1 : Int32)) hx hb dX12_worked_168 (by decide) ?_
                refine lv_isub hx hb dX12_worked_169 ?_
                obtain ⟨hj, h⟩ := ix_a h
                refine al83 hx hb hK hW cz83 hj dX12_worked_170 ?_
                refine lv_aload_n hx hb dX12_worked_171 rfl (lv_at hl 2 rfl) ?_
                refine gtX12_113 hx hb hts hown hK hW cz12 dX12_worked_172 ?_
                refine lv_iload hx hb dX12_worked_175 (lv_at hl 0 rfl) ?_
                obtain ⟨hj, h⟩ := ix_a h
                refine al83 hx hb hK hW cz83 hj dX12_worked_177 ?_
                obtain ⟨b22, hcb22, h⟩ := bd_a h
                refine tb_cSI hZk hx hb hml hown hts hK hZ hW hS [.int v7, .int (mgI M5 8300 0 (v21 - (1 : Int32)).toNatClampNeg), .int (mgI M5 8300 0 v21.toNatClampNeg)] (mX12_twoOf (l := l) hZk v7 (mgI M5 8300 0 (v21 - (1 : Int32)).toNatClampNeg) (mgI M5 8300 0 v21.toNatClampNeg) M5 b22 hcb22) pmX12_twoOf tw1629 ⟨Nat.le_of_ble_eq_true rfl, Nat.le_of_ble_eq_true rfl⟩ rfl hl.1 (Nat.le_of_ble_eq_true rfl) ⟨Nat.le_refl _, Nat.le_refl _⟩ rfl dX12_worked_178 (fun H locs hW hS => ?_)
                obtain ⟨hj, h⟩ := ix_a h
                refine as83 hx hb hK hW hS cz83 hj dX12_worked_181 (fun H locs hW hS => ?_)
                obtain ⟨M23, eM23⟩ : ∃ y, y = msI M5 8300 0 ((v21 - (1 : Int32)).toNatClampNeg) b22 := ⟨_, rfl⟩
                have h := nm_a eM23 h
                rw [← eM23] at hW
                obtain ⟨v24, ev24⟩ : ∃ y : Int32, y = i4 + (1 : Int32) := ⟨_, rfl⟩
                have h := nm_a ev24 h
                refine lv_iinc (v := v24) (lv' := [(5, .int v24), (4, .int v21), (6, .int v7), (0, .ref (ad 12 0)), (1, .int x1), (3, .int x3)]) hx hb dX12_worked_182 hl (k := 5) rfl (by rw [ev24]; rfl) (by decide) rfl (fun ls hl => ?_)
                refine lv_goto (tgt := 12) hx hb dX12_worked_185 (by decide) ?_
                exact ih2 v21 v24 M23 _ _ _ hW hS (lv_sub hl [3, 4, 5, 1, 0] rfl) h
              · have h := sh_t c20 h
                refine lv_aload_n hx hb dX12_worked_127 rfl (lv_at hl 1 rfl) ?_
                refine gtX12_113 hx hb hts hown hK hW cz12 dX12_worked_128 ?_
                refine lv_iload hx hb dX12_worked_131 (lv_at hl 4 rfl) ?_
                refine lv_iconst (v := (1 : Int32)) hx hb dX12_worked_133 (by decide) ?_
                refine lv_isub hx hb dX12_worked_134 ?_
                refine lv_aload_n hx hb dX12_worked_135 rfl (lv_at hl 1 rfl) ?_
                refine gtX12_113 hx hb hts hown hK hW cz12 dX12_worked_136 ?_
                refine lv_iload hx hb dX12_worked_139 (lv_at hl 4 rfl) ?_
                refine lv_iconst (v := (1 : Int32)) hx hb dX12_worked_141 (by decide) ?_
                refine lv_isub hx hb dX12_worked_142 ?_
                obtain ⟨hj, h⟩ := ix_a h
                refine al83 hx hb hK hW cz83 hj dX12_worked_143 ?_
                refine lv_ineg hx hb dX12_worked_144 ?_
                refine lv_topi (fun v25 ev25 => ?_)
                have h := nm_a ev25 h
                obtain ⟨hj, h⟩ := ix_a h
                refine as83 hx hb hK hW hS cz83 hj dX12_worked_145 (fun H locs hW hS => ?_)
                obtain ⟨M26, eM26⟩ : ∃ y, y = msI M5 8300 0 ((i3 - (1 : Int32)).toNatClampNeg) v25 := ⟨_, rfl⟩
                have h := nm_a eM26 h
                rw [← eM26] at hW
                refine lv_goto (tgt := 182) hx hb dX12_worked_146 (by decide) ?_
                obtain ⟨v27, ev27⟩ : ∃ y : Int32, y = i4 + (1 : Int32) := ⟨_, rfl⟩
                have h := nm_a ev27 h
                refine lv_iinc (v := v27) (lv' := [(5, .int v27), (6, .int v7), (0, .ref (ad 12 0)), (1, .int x1), (3, .int x3), (4, .int i3)]) hx hb dX12_worked_182 hl (k := 5) rfl (by rw [ev27]; rfl) (by decide) rfl (fun ls hl => ?_)
                refine lv_goto (tgt := 12) hx hb dX12_worked_185 (by decide) ?_
                exact ih2 i3 v27 M26 _ _ _ hW hS (lv_sub hl [2, 3, 4, 5, 0] rfl) h
            · have h := sh_t c19 h
              refine lv_aload_n hx hb dX12_worked_92 rfl (lv_at hl 1 rfl) ?_
              refine gtX12_113 hx hb hts hown hK hW cz12 dX12_worked_93 ?_
              refine lv_iload hx hb dX12_worked_96 (lv_at hl 4 rfl) ?_
              refine lv_iconst (v := (1 : Int32)) hx hb dX12_worked_98 (by decide) ?_
              refine lv_isub hx hb dX12_worked_99 ?_
              refine lv_aload_n hx hb dX12_worked_100 rfl (lv_at hl 1 rfl) ?_
              refine gtX12_113 hx hb hts hown hK hW cz12 dX12_worked_101 ?_
              refine lv_iload hx hb dX12_worked_104 (lv_at hl 4 rfl) ?_
              refine lv_iconst (v := (1 : Int32)) hx hb dX12_worked_106 (by decide) ?_
              refine lv_isub hx hb dX12_worked_107 ?_
              obtain ⟨hj, h⟩ := ix_a h
              refine al83 hx hb hK hW cz83 hj dX12_worked_108 ?_
              refine lv_if_ne (tgt := 116) hx hb dX12_worked_109 (by decide) (fun c28 => ?_) (fun c28 => ?_)
              · have h := sh_f c28 h
                refine lv_iconst (v := (0 : Int32)) hx hb dX12_worked_116 (by decide) ?_
                obtain ⟨hj, h⟩ := ix_a h
                refine as83 hx hb hK hW hS cz83 hj dX12_worked_117 (fun H locs hW hS => ?_)
                obtain ⟨M29, eM29⟩ : ∃ y, y = msI M5 8300 0 ((i3 - (1 : Int32)).toNatClampNeg) (0 : Int32) := ⟨_, rfl⟩
                have h := nm_a eM29 h
                rw [← eM29] at hW
                refine lv_goto (tgt := 182) hx hb dX12_worked_118 (by decide) ?_
                obtain ⟨v30, ev30⟩ : ∃ y : Int32, y = i4 + (1 : Int32) := ⟨_, rfl⟩
                have h := nm_a ev30 h
                refine lv_iinc (v := v30) (lv' := [(5, .int v30), (6, .int v7), (0, .ref (ad 12 0)), (1, .int x1), (3, .int x3), (4, .int i3)]) hx hb dX12_worked_182 hl (k := 5) rfl (by rw [ev30]; rfl) (by decide) rfl (fun ls hl => ?_)
                refine lv_goto (tgt := 12) hx hb dX12_worked_185 (by decide) ?_
                exact ih2 i3 v30 M29 _ _ _ hW hS (lv_sub hl [2, 3, 4, 5, 0] rfl) h
              · have h := sh_t c28 h
                refine lv_iconst (v := (1 : Int32)) hx hb dX12_worked_112 (by decide) ?_
                refine lv_goto (tgt := 117) hx hb dX12_worked_113 (by decide) ?_
                obtain ⟨hj, h⟩ := ix_a h
                refine as83 hx hb hK hW hS cz83 hj dX12_worked_117 (fun H locs hW hS => ?_)
                obtain ⟨M31, eM31⟩ : ∃ y, y = msI M5 8300 0 ((i3 - (1 : Int32)).toNatClampNeg) (1 : Int32) := ⟨_, rfl⟩
                have h := nm_a eM31 h
                rw [← eM31] at hW
                refine lv_goto (tgt := 182) hx hb dX12_worked_118 (by decide) ?_
                obtain ⟨v32, ev32⟩ : ∃ y : Int32, y = i4 + (1 : Int32) := ⟨_, rfl⟩
                have h := nm_a ev32 h
                refine lv_iinc (v := v32) (lv' := [(5, .int v32), (6, .int v7), (0, .ref (ad 12 0)), (1, .int x1), (3, .int x3), (4, .int i3)]) hx hb dX12_worked_182 hl (k := 5) rfl (by rw [ev32]; rfl) (by decide) rfl (fun ls hl => ?_)
                refine lv_goto (tgt := 12) hx hb dX12_worked_185 (by decide) ?_
                exact ih2 i3 v32 M31 _ _ _ hW hS (lv_sub hl [2, 3, 4, 5, 0] rfl) h
          · have h := sh_t c18 h
            refine lv_aload_n hx hb dX12_worked_45 rfl (lv_at hl 1 rfl) ?_
            refine gtX12_113 hx hb hts hown hK hW cz12 dX12_worked_46 ?_
            refine lv_iload hx hb dX12_worked_49 (lv_at hl 4 rfl) ?_
            refine lv_iload hx hb dX12_worked_51 (lv_at hl 0 rfl) ?_
            refine lv_iconst (v := (1 : Int32)) hx hb dX12_worked_53 (by decide) ?_
            refine lv_icmp_ne (tgt := 67) hx hb dX12_worked_54 (by decide) (fun c33 => ?_) (fun c33 => ?_)
            · have h := sh_f c33 h
              refine lv_aload_n hx hb dX12_worked_67 rfl (lv_at hl 1 rfl) ?_
              refine gtX12_110 hx hb hts hown hK hW cz12 dX12_worked_68 ?_
              refine lv_aload_n hx hb dX12_worked_71 rfl (lv_at hl 1 rfl) ?_
              refine gtX12_97 hx hb hts hown hK hW cz12 dX12_worked_72 ?_
              refine lv_iload hx hb dX12_worked_75 (lv_at hl 5 rfl) ?_
              obtain ⟨hj, h⟩ := ix_a h
              refine al78 hx hb hK hW cz78 hj dX12_worked_77 ?_
              obtain ⟨hj, h⟩ := ix_a h
              refine al82 hx hb hK hW cz82 hj dX12_worked_78 ?_
              refine lv_topi (fun v34 ev34 => ?_)
              have h := nm_a ev34 h
              obtain ⟨hj, h⟩ := ix_a h
              refine as83 hx hb hK hW hS cz83 hj dX12_worked_79 (fun H locs hW hS => ?_)
              obtain ⟨M35, eM35⟩ : ∃ y, y = msI M5 8300 0 i3.toNatClampNeg v34 := ⟨_, rfl⟩
              have h := nm_a eM35 h
              rw [← eM35] at hW
              obtain ⟨v36, ev36⟩ : ∃ y : Int32, y = i3 + (1 : Int32) := ⟨_, rfl⟩
              have h := nm_a ev36 h
              refine lv_iinc (v := v36) (lv' := [(4, .int v36), (6, .int v7), (0, .ref (ad 12 0)), (1, .int x1), (3, .int x3), (5, .int i4)]) hx hb dX12_worked_80 hl (k := 4) rfl (by rw [ev36]; rfl) (by decide) rfl (fun ls hl => ?_)
              refine lv_goto (tgt := 182) hx hb dX12_worked_83 (by decide) ?_
              obtain ⟨v37, ev37⟩ : ∃ y : Int32, y = i4 + (1 : Int32) := ⟨_, rfl⟩
              have h := nm_a ev37 h
              refine lv_iinc (v := v37) (lv' := [(5, .int v37), (4, .int v36), (6, .int v7), (0, .ref (ad 12 0)), (1, .int x1), (3, .int x3)]) hx hb dX12_worked_182 hl (k := 5) rfl (by rw [ev37]; rfl) (by decide) rfl (fun ls hl => ?_)
              refine lv_goto (tgt := 12) hx hb dX12_worked_185 (by decide) ?_
              exact ih2 v36 v37 M35 _ _ _ hW hS (lv_sub hl [3, 4, 5, 1, 0] rfl) h
            · have h := sh_t c33 h
              refine lv_aload_n hx hb dX12_worked_57 rfl (lv_at hl 1 rfl) ?_
              refine gtX12_97 hx hb hts hown hK hW cz12 dX12_worked_58 ?_
              refine lv_iload hx hb dX12_worked_61 (lv_at hl 5 rfl) ?_
              obtain ⟨hj, h⟩ := ix_a h
              refine al78 hx hb hK hW cz78 hj dX12_worked_63 ?_
              refine lv_goto (tgt := 79) hx hb dX12_worked_64 (by decide) ?_
              refine lv_topi (fun v38 ev38 => ?_)
              have h := nm_a ev38 h
              obtain ⟨hj, h⟩ := ix_a h
              refine as83 hx hb hK hW hS cz83 hj dX12_worked_79 (fun H locs hW hS => ?_)
              obtain ⟨M39, eM39⟩ : ∃ y, y = msI M5 8300 0 i3.toNatClampNeg v38 := ⟨_, rfl⟩
              have h := nm_a eM39 h
              rw [← eM39] at hW
              obtain ⟨v40, ev40⟩ : ∃ y : Int32, y = i3 + (1 : Int32) := ⟨_, rfl⟩
              have h := nm_a ev40 h
              refine lv_iinc (v := v40) (lv' := [(4, .int v40), (6, .int v7), (0, .ref (ad 12 0)), (1, .int x1), (3, .int x3), (5, .int i4)]) hx hb dX12_worked_80 hl (k := 4) rfl (by rw [ev40]; rfl) (by decide) rfl (fun ls hl => ?_)
              refine lv_goto (tgt := 182) hx hb dX12_worked_83 (by decide) ?_
              obtain ⟨v41, ev41⟩ : ∃ y : Int32, y = i4 + (1 : Int32) := ⟨_, rfl⟩
              have h := nm_a ev41 h
              refine lv_iinc (v := v41) (lv' := [(5, .int v41), (4, .int v40), (6, .int v7), (0, .ref (ad 12 0)), (1, .int x1), (3, .int x3)]) hx hb dX12_worked_182 hl (k := 5) rfl (by rw [ev41]; rfl) (by decide) rfl (fun ls hl => ?_)
              refine lv_goto (tgt := 12) hx hb dX12_worked_185 (by decide) ?_
              exact ih2 v40 v41 M39 _ _ _ hW hS (lv_sub hl [3, 4, 5, 1, 0] rfl) h
  exact L2 FU (0 : Int32) v1 M0 _ _ _ hW hS (lv_sub hl [2, 3, 5, 1, 0] rfl) h
def fX12_gives_b7 (x1 : Int32) (k2 : Int32 → Int32 → Mem → Option (Int32 × Mem)) (i3 : Int32) (i4 : Int32) (M5 : Mem) : Option (Int32 × Mem) :=
  ix x1 3 <| if (((61 : Int32) * x1) + (mgI M5 7900 0 x1.toNatClampNeg)) ≤ i4 then (some ((0 : Int32), M5)) else (ix i4 183 <| if (mgI M5 8000 0 i4.toNatClampNeg) = i3 then (ix i4 183 <| ix i4 183 <| bE (fX12_worked x1 (mgI M5 8000 0 i4.toNatClampNeg) (mgI M5 8100 0 i4.toNatClampNeg) M5) fun b8 M9 => some (b8, M9)) else (ix i4 183 <| bE (fX12_worked x1 i3 (mgI M5 8000 0 i4.toNatClampNeg) M5) fun b10 M11 => if b10 = 0 then (ix i4 183 <| nm (mgI M11 8100 0 i4.toNatClampNeg) fun v13 => nm (i4 + (1 : Int32)) fun v14 => k2 v13 v14 M11) else (ix i4 183 <| ix i4 183 <| bE (fX12_worked x1 (mgI M11 8000 0 i4.toNatClampNeg) (mgI M11 8100 0 i4.toNatClampNeg) M11) fun b15 M16 => some (b15, M16))))
def fX12_gives_l7 (x1 : Int32) : Nat → Int32 → Int32 → Mem → Option (Int32 × Mem)
  | 0, _, _, _ => none
  | n + 1, i3, i4, M5 => fX12_gives_b7 x1 (fX12_gives_l7 x1 n) i3 i4 M5
def fX12_gives (x1 : Int32) (M0 : Mem) : Option (Int32 × Mem) :=
  nm ((61 : Int32) * x1) fun v1 => fX12_gives_l7 x1 FU (0 : Int32) v1 M0
set_option maxHeartbeats 4000000 in
set_option maxRecDepth 100000 in
theorem mX12_gives {l : Launch} {D : va_G} {cy : Nat → ClassId} {A : Nat → Prop} {Z : State → Heap → Prop} {ad : Nat → Nat → Nat} (hZk : ZOK A Z) (x1 : Int32) (M0 : Mem) (r : Int32) (M' : Mem) (h : fX12_gives x1 M0 = some (r, M')) : Met l yX12_gives (wt yX12_gives cX12_gives 4 (some .int)) (rm 2 48) (CPre D cy A Z cnM ad M0 [.ref (ad 12 0), .int x1]) (QI D cy A cnM ad r M') 0 0 A := by
  refine tb_start [.ref (ad 12 0), .int x1] [(0, .ref (ad 12 0)), (1, .int x1)] RX12 rfl (by decide +kernel) (Nat.le_of_ble_eq_true rfl) rfl (fun p e s m args below meth c hx hb hr hml hown hts hlk hW hK hZ ls hl => ?_)
  have hS : va_S A s.heap s.heap [] := va_S.rf
  unfold fX12_gives at h
  refine lv_iconst (v := (0 : Int32)) hx hb dX12_gives_0 (by decide) ?_
  refine lv_istore_n (lv' := [(2, .int (0 : Int32)), (0, .ref (ad 12 0)), (1, .int x1)]) hx hb dX12_gives_1 rfl hl (by decide) rfl (fun ls hl => ?_)
  refine lv_bipush (v := (61 : Int32)) hx hb dX12_gives_2 (by decide) ?_
  refine lv_iload_n hx hb dX12_gives_4 rfl (lv_at hl 2 rfl) ?_
  refine lv_imul hx hb dX12_gives_5 ?_
  refine lv_topi (fun v1 ev1 => ?_)
  have h := nm_a ev1 h
  refine lv_istore_n (lv' := [(3, .int v1), (2, .int (0 : Int32)), (0, .ref (ad 12 0)), (1, .int x1)]) hx hb dX12_gives_6 rfl hl (by decide) rfl (fun ls hl => ?_)
  have L2 : ∀ (n2 : Nat) (i3 : Int32) (i4 : Int32) (M5 : Mem) (H : Heap) (locs : List Loc) (ls : Array Slot), Wd D cy A cnM ad M5 H → va_S A s.heap H locs → lv_has ls 4 [(0, .ref (ad 12 0)), (1, .int x1), (2, .int i3), (3, .int i4)] → fX12_gives_l7 x1 n2 i3 i4 M5 = some (r, M') → W p l e (rm 2 48) s m args below meth c H locs 0 0 (MQ below (QI D cy A cnM ad r M') args s 0 0 A) (F0 m 7 ls []) := by
    intro n2
    induction n2 with
    | zero => intro i3 i4 M5 H locs ls hW hS hl h; cases h
    | succ n2 ih2 =>
      intro i3 i4 M5 H locs ls hW hS hl h
      unfold fX12_gives_l7 fX12_gives_b7 at h
      refine lv_iload_n hx hb dX12_gives_7 rfl (lv_at hl 3 rfl) ?_
      refine lv_bipush (v := (61 : Int32)) hx hb dX12_gives_8 (by decide) ?_
      refine lv_iload_n hx hb dX12_gives_10 rfl (lv_at hl 1 rfl) ?_
      refine lv_imul hx hb dX12_gives_11 ?_
      refine lv_aload_n hx hb dX12_gives_12 rfl (lv_at hl 0 rfl) ?_
      refine gtX12_100 hx hb hts hown hK hW cz12 dX12_gives_13 ?_
      refine lv_iload_n hx hb dX12_gives_16 rfl (lv_at hl 1 rfl) ?_
      obtain ⟨hj, h⟩ := ix_a h
      refine al79 hx hb hK hW cz79 hj dX12_gives_17 ?_
      refine lv_iadd hx hb dX12_gives_18 ?_
      refine lv_icmp_ge (tgt := 78) hx hb dX12_gives_19 (by decide) (fun c6 => ?_) (fun c6 => ?_)
      · have h := sh_t c6 h
        refine lv_iconst (v := (0 : Int32)) hx hb dX12_gives_78 (by decide) ?_
        exact tb_iretE h hx hb hr hS hW hlk dX12_gives_79
      · have h := sh_f c6 h
        refine lv_aload_n hx hb dX12_gives_22 rfl (lv_at hl 0 rfl) ?_
        refine gtX12_103 hx hb hts hown hK hW cz12 dX12_gives_23 ?_
        refine lv_iload_n hx hb dX12_gives_26 rfl (lv_at hl 3 rfl) ?_
        obtain ⟨hj, h⟩ := ix_a h
        refine al80 hx hb hK hW cz80 hj dX12_gives_27 ?_
        refine lv_iload_n hx hb dX12_gives_28 rfl (lv_at hl 2 rfl) ?_
        refine lv_icmp_eq (tgt := 47) hx hb dX12_gives_29 (by decide) (fun c7 => ?_) (fun c7 => ?_)
        · have h := sh_t c7 h
          refine lv_aload_n hx hb dX12_gives_47 rfl (lv_at hl 0 rfl) ?_
          refine lv_iload_n hx hb dX12_gives_48 rfl (lv_at hl 1 rfl) ?_
          refine lv_aload_n hx hb dX12_gives_49 rfl (lv_at hl 0 rfl) ?_
          refine gtX12_103 hx hb hts hown hK hW cz12 dX12_gives_50 ?_
          refine lv_iload_n hx hb dX12_gives_53 rfl (lv_at hl 3 rfl) ?_
          obtain ⟨hj, h⟩ := ix_a h
          refine al80 hx hb hK hW cz80 hj dX12_gives_54 ?_
          refine lv_aload_n hx hb dX12_gives_55 rfl (lv_at hl 0 rfl) ?_
          refine gtX12_107 hx hb hts hown hK hW cz12 dX12_gives_56 ?_
          refine lv_iload_n hx hb dX12_gives_59 rfl (lv_at hl 3 rfl) ?_
          obtain ⟨hj, h⟩ := ix_a h
          refine al81 hx hb hK hW cz81 hj dX12_gives_60 ?_
          obtain ⟨b8, M9, hcb8, h⟩ := bE_a h
          refine tb_cVI hZk hx hb hml hown hts hK hZ hW hS [.int x1, .int (mgI M5 8000 0 i4.toNatClampNeg), .int (mgI M5 8100 0 i4.toNatClampNeg)] (mX12_worked (l := l) hZk x1 (mgI M5 8000 0 i4.toNatClampNeg) (mgI M5 8100 0 i4.toNatClampNeg) M5 b8 M9 hcb8) pmX12_worked tw1625 (Wd.recv hK hW (t := 12) (by decide) cz12 (C := RX12) (T := TX12) (N := 58) rfl) ⟨Nat.le_of_ble_eq_true rfl, Nat.le_of_ble_eq_true rfl⟩ rfl hl.1 (Nat.le_of_ble_eq_true rfl) ⟨Nat.le_refl _, Nat.le_refl _⟩ rfl dX12_gives_61 (fun H locs hW hS => ?_)
          exact tb_iretE h hx hb hr hS hW hlk dX12_gives_64
        · have h := sh_f c7 h
          refine lv_aload_n hx hb dX12_gives_32 rfl (lv_at hl 0 rfl) ?_
          refine lv_iload_n hx hb dX12_gives_33 rfl (lv_at hl 1 rfl) ?_
          refine lv_iload_n hx hb dX12_gives_34 rfl (lv_at hl 2 rfl) ?_
          refine lv_aload_n hx hb dX12_gives_35 rfl (lv_at hl 0 rfl) ?_
          refine gtX12_103 hx hb hts hown hK hW cz12 dX12_gives_36 ?_
          refine lv_iload_n hx hb dX12_gives_39 rfl (lv_at hl 3 rfl) ?_
          obtain ⟨hj, h⟩ := ix_a h
          refine al80 hx hb hK hW cz80 hj dX12_gives_40 ?_
          obtain ⟨b10, M11, hcb10, h⟩ := bE_a h
          refine tb_cVI hZk hx hb hml hown hts hK hZ hW hS [.int x1, .int i3, .int (mgI M5 8000 0 i4.toNatClampNeg)] (mX12_worked (l := l) hZk x1 i3 (mgI M5 8000 0 i4.toNatClampNeg) M5 b10 M11 hcb10) pmX12_worked tw1625 (Wd.recv hK hW (t := 12) (by decide) cz12 (C := RX12) (T := TX12) (N := 58) rfl) ⟨Nat.le_of_ble_eq_true rfl, Nat.le_of_ble_eq_true rfl⟩ rfl hl.1 (Nat.le_of_ble_eq_true rfl) ⟨Nat.le_refl _, Nat.le_refl _⟩ rfl dX12_gives_41 (fun H locs hW hS => ?_)
          refine lv_if_eq (tgt := 65) hx hb dX12_gives_44 (by decide) (fun c12 => ?_) (fun c12 => ?_)
          · have h := sh_t c12 h
            refine lv_aload_n hx hb dX12_gives_65 rfl (lv_at hl 0 rfl) ?_
            refine gtX12_107 hx hb hts hown hK hW cz12 dX12_gives_66 ?_
            refine lv_iload_n hx hb dX12_gives_69 rfl (lv_at hl 3 rfl) ?_
            obtain ⟨hj, h⟩ := ix_a h
            refine al81 hx hb hK hW cz81 hj dX12_gives_70 ?_
            refine lv_topi (fun v13 ev13 => ?_)
            have h := nm_a ev13 h
            refine lv_istore_n (lv' := [(2, .int v13), (0, .ref (ad 12 0)), (1, .int x1), (3, .int i4)]) hx hb dX12_gives_71 rfl hl (by decide) rfl (fun ls hl => ?_)
            obtain ⟨v14, ev14⟩ : ∃ y : Int32, y = i4 + (1 : Int32) := ⟨_, rfl⟩
            have h := nm_a ev14 h
            refine lv_iinc (v := v14) (lv' := [(3, .int v14), (2, .int v13), (0, .ref (ad 12 0)), (1, .int x1)]) hx hb dX12_gives_72 hl (k := 3) rfl (by rw [ev14]; rfl) (by decide) rfl (fun ls hl => ?_)
            refine lv_goto (tgt := 7) hx hb dX12_gives_75 (by decide) ?_
            exact ih2 v13 v14 M11 _ _ _ hW hS (lv_sub hl [2, 3, 1, 0] rfl) h
          · have h := sh_f c12 h
            refine lv_aload_n hx hb dX12_gives_47 rfl (lv_at hl 0 rfl) ?_
            refine lv_iload_n hx hb dX12_gives_48 rfl (lv_at hl 1 rfl) ?_
            refine lv_aload_n hx hb dX12_gives_49 rfl (lv_at hl 0 rfl) ?_
            refine gtX12_103 hx hb hts hown hK hW cz12 dX12_gives_50 ?_
            refine lv_iload_n hx hb dX12_gives_53 rfl (lv_at hl 3 rfl) ?_
            obtain ⟨hj, h⟩ := ix_a h
            refine al80 hx hb hK hW cz80 hj dX12_gives_54 ?_
            refine lv_aload_n hx hb dX12_gives_55 rfl (lv_at hl 0 rfl) ?_
            refine gtX12_107 hx hb hts hown hK hW cz12 dX12_gives_56 ?_
            refine lv_iload_n hx hb dX12_gives_59 rfl (lv_at hl 3 rfl) ?_
            obtain ⟨hj, h⟩ := ix_a h
            refine al81 hx hb hK hW cz81 hj dX12_gives_60 ?_
            obtain ⟨b15, M16, hcb15, h⟩ := bE_a h
            refine tb_cVI hZk hx hb hml hown hts hK hZ hW hS [.int x1, .int (mgI M11 8000 0 i4.toNatClampNeg), .int (mgI M11 8100 0 i4.toNatClampNeg)] (mX12_worked (l := l) hZk x1 (mgI M11 8000 0 i4.toNatClampNeg) (mgI M11 8100 0 i4.toNatClampNeg) M11 b15 M16 hcb15) pmX12_worked tw1625 (Wd.recv hK hW (t := 12) (by decide) cz12 (C := RX12) (T := TX12) (N := 58) rfl) ⟨Nat.le_of_ble_eq_true rfl, Nat.le_of_ble_eq_true rfl⟩ rfl hl.1 (Nat.le_of_ble_eq_true rfl) ⟨Nat.le_refl _, Nat.le_refl _⟩ rfl dX12_gives_61 (fun H locs hW hS => ?_)
            exact tb_iretE h hx hb hr hS hW hlk dX12_gives_64
  exact L2 FU (0 : Int32) v1 M0 _ _ _ hW hS (lv_sub hl [2, 3, 1, 0] rfl) h
def fX12_oddsOf_b203 (x1 : Int32) (x2 : Int32) (k16 : Int32 → Mem → Option (Int32 × Mem)) (i17 : Int32) (M18 : Mem) : Option (Int32 × Mem) :=
  if (mgI M18 1246 0 0) ≤ i17 then (ix x1 64 <| nm (mgI M18 5200 0 x1.toNatClampNeg) fun v20 => nm (msI M18 8200 0 ((5 : Int32).toNatClampNeg) v20) fun M21 => ix x1 64 <| if (mgI M21 5800 0 x1.toNatClampNeg) = 0 then (nm (msI M21 8200 0 ((6 : Int32).toNatClampNeg) (0 : Int32)) fun M23 => bE (fX12_gives x2 M23) fun b24 M25 => if 0 ≤ b24 then (if b24 ≤ (1000 : Int32) then (some (b24, M25)) else (some ((1000 : Int32), M25))) else (some ((0 : Int32), M25))) else (nm (msI M21 8200 0 ((6 : Int32).toNatClampNeg) (1 : Int32)) fun M28 => bE (fX12_gives x2 M28) fun b29 M30 => if 0 ≤ b29 then (if b29 ≤ (1000 : Int32) then (some (b29, M30)) else (some ((1000 : Int32), M30))) else (some ((0 : Int32), M30)))) else (ix i17 60 <| bd (fX12_isOn x1 (mgI M18 8400 0 i17.toNatClampNeg) M18) fun b33 => if b33 = 0 then (nm ((mgI M18 8200 0 (4 : Int32).toNatClampNeg) + (0 : Int32)) fun v35 => nm (msI M18 8200 0 ((4 : Int32).toNatClampNeg) v35) fun M36 => nm (i17 + (1 : Int32)) fun v37 => k16 v37 M36) else (ix i17 60 <| ix (mgI M18 8400 0 i17.toNatClampNeg) 64 <| if (mgI M18 5400 0 (mgI M18 8400 0 i17.toNatClampNeg).toNatClampNeg) < 0 then (nm ((mgI M18 8200 0 (4 : Int32).toNatClampNeg) + (0 : Int32)) fun v39 => nm (msI M18 8200 0 ((4 : Int32).toNatClampNeg) v39) fun M40 => nm (i17 + (1 : Int32)) fun v41 => k16 v41 M40) else (ix i17 60 <| if 0 ≤ (mgI M18 8600 0 i17.toNatClampNeg) then (nm ((mgI M18 8200 0 (4 : Int32).toNatClampNeg) + (0 : Int32)) fun v43 => nm (msI M18 8200 0 ((4 : Int32).toNatClampNeg) v43) fun M44 => nm (i17 + (1 : Int32)) fun v45 => k16 v45 M44) else (nm ((mgI M18 8200 0 (4 : Int32).toNatClampNeg) + (1 : Int32)) fun v46 => nm (msI M18 8200 0 ((4 : Int32).toNatClampNeg) v46) fun M47 => nm (i17 + (1 : Int32)) fun v48 => k16 v48 M47))))
def fX12_oddsOf_l203 (x1 : Int32) (x2 : Int32) : Nat → Int32 → Mem → Option (Int32 × Mem)
  | 0, _, _ => none
  | n + 1, i17, M18 => fX12_oddsOf_b203 x1 x2 (fX12_oddsOf_l203 x1 x2 n) i17 M18
def fX12_oddsOf_b203_50 (x1 : Int32) (x2 : Int32) (k50 : Int32 → Mem → Option (Int32 × Mem)) (i51 : Int32) (M52 : Mem) : Option (Int32 × Mem) :=
  if (mgI M52 1246 0 0) ≤ i51 then (ix x1 64 <| nm (mgI M52 5200 0 x1.toNatClampNeg) fun v54 => nm (msI M52 8200 0 ((5 : Int32).toNatClampNeg) v54) fun M55 => ix x1 64 <| if (mgI M55 5800 0 x1.toNatClampNeg) = 0 then (nm (msI M55 8200 0 ((6 : Int32).toNatClampNeg) (0 : Int32)) fun M57 => bE (fX12_gives x2 M57) fun b58 M59 => if 0 ≤ b58 then (if b58 ≤ (1000 : Int32) then (some (b58, M59)) else (some ((1000 : Int32), M59))) else (some ((0 : Int32), M59))) else (nm (msI M55 8200 0 ((6 : Int32).toNatClampNeg) (1 : Int32)) fun M62 => bE (fX12_gives x2 M62) fun b63 M64 => if 0 ≤ b63 then (if b63 ≤ (1000 : Int32) then (some (b63, M64)) else (some ((1000 : Int32), M64))) else (some ((0 : Int32), M64)))) else (ix i51 60 <| bd (fX12_isOn x1 (mgI M52 8400 0 i51.toNatClampNeg) M52) fun b67 => if b67 = 0 then (nm ((mgI M52 8200 0 (4 : Int32).toNatClampNeg) + (0 : Int32)) fun v69 => nm (msI M52 8200 0 ((4 : Int32).toNatClampNeg) v69) fun M70 => nm (i51 + (1 : Int32)) fun v71 => k50 v71 M70) else (ix i51 60 <| ix (mgI M52 8400 0 i51.toNatClampNeg) 64 <| if (mgI M52 5400 0 (mgI M52 8400 0 i51.toNatClampNeg).toNatClampNeg) < 0 then (nm ((mgI M52 8200 0 (4 : Int32).toNatClampNeg) + (0 : Int32)) fun v73 => nm (msI M52 8200 0 ((4 : Int32).toNatClampNeg) v73) fun M74 => nm (i51 + (1 : Int32)) fun v75 => k50 v75 M74) else (ix i51 60 <| if 0 ≤ (mgI M52 8600 0 i51.toNatClampNeg) then (nm ((mgI M52 8200 0 (4 : Int32).toNatClampNeg) + (0 : Int32)) fun v77 => nm (msI M52 8200 0 ((4 : Int32).toNatClampNeg) v77) fun M78 => nm (i51 + (1 : Int32)) fun v79 => k50 v79 M78) else (nm ((mgI M52 8200 0 (4 : Int32).toNatClampNeg) + (1 : Int32)) fun v80 => nm (msI M52 8200 0 ((4 : Int32).toNatClampNeg) v80) fun M81 => nm (i51 + (1 : Int32)) fun v82 => k50 v82 M81))))
def fX12_oddsOf_l203_50 (x1 : Int32) (x2 : Int32) : Nat → Int32 → Mem → Option (Int32 × Mem)
  | 0, _, _ => none
  | n + 1, i51, M52 => fX12_oddsOf_b203_50 x1 x2 (fX12_oddsOf_l203_50 x1 x2 n) i51 M52
def fX12_oddsOf_b77 (x1 : Int32) (x2 : Int32) (k11 : Int32 → Mem → Option (Int32 × Mem)) (i12 : Int32) (M13 : Mem) : Option (Int32 × Mem) :=
  if (mgI M13 1212 0 0) ≤ i12 then (if (mgI M13 8200 0 (3 : Int32).toNatClampNeg) = 0 then (nm (msI M13 8200 0 ((2 : Int32).toNatClampNeg) (0 : Int32)) fun M49 => fX12_oddsOf_l203_50 x1 x2 FU (0 : Int32) M49) else (fX12_oddsOf_l203 x1 x2 FU (0 : Int32) M13)) else (ix i12 200 <| if (mgI M13 5900 0 i12.toNatClampNeg) = x1 then (ix i12 200 <| if (mgI M13 6300 0 i12.toNatClampNeg) = 0 then (ix i12 200 <| if (mgI M13 6100 0 i12.toNatClampNeg) ≤ (mgI M13 8200 0 (1 : Int32).toNatClampNeg) then (ix i12 200 <| if (mgI M13 8200 0 (2 : Int32).toNatClampNeg) ≤ (mgI M13 6200 0 i12.toNatClampNeg) then (nm ((mgI M13 8200 0 (3 : Int32).toNatClampNeg) + (1 : Int32)) fun v88 => nm (msI M13 8200 0 ((3 : Int32).toNatClampNeg) v88) fun M89 => nm (i12 + (1 : Int32)) fun v90 => k11 v90 M89) else (ix i12 200 <| nm (mgI M13 6200 0 i12.toNatClampNeg) fun v91 => nm (msI M13 8200 0 ((2 : Int32).toNatClampNeg) v91) fun M92 => nm ((mgI M92 8200 0 (3 : Int32).toNatClampNeg) + (1 : Int32)) fun v93 => nm (msI M92 8200 0 ((3 : Int32).toNatClampNeg) v93) fun M94 => nm (i12 + (1 : Int32)) fun v95 => k11 v95 M94)) else (ix i12 200 <| nm (mgI M13 6100 0 i12.toNatClampNeg) fun v96 => nm (msI M13 8200 0 ((1 : Int32).toNatClampNeg) v96) fun M97 => ix i12 200 <| if (mgI M97 8200 0 (2 : Int32).toNatClampNeg) ≤ (mgI M97 6200 0 i12.toNatClampNeg) then (nm ((mgI M97 8200 0 (3 : Int32).toNatClampNeg) + (1 : Int32)) fun v99 => nm (msI M97 8200 0 ((3 : Int32).toNatClampNeg) v99) fun M100 => nm (i12 + (1 : Int32)) fun v101 => k11 v101 M100) else (ix i12 200 <| nm (mgI M97 6200 0 i12.toNatClampNeg) fun v102 => nm (msI M97 8200 0 ((2 : Int32).toNatClampNeg) v102) fun M103 => nm ((mgI M103 8200 0 (3 : Int32).toNatClampNeg) + (1 : Int32)) fun v104 => nm (msI M103 8200 0 ((3 : Int32).toNatClampNeg) v104) fun M105 => nm (i12 + (1 : Int32)) fun v106 => k11 v106 M105))) else (nm (i12 + (1 : Int32)) fun v107 => k11 v107 M13)) else (nm (i12 + (1 : Int32)) fun v84 => k11 v84 M13))
def fX12_oddsOf_l77 (x1 : Int32) (x2 : Int32) : Nat → Int32 → Mem → Option (Int32 × Mem)
  | 0, _, _ => none
  | n + 1, i12, M13 => fX12_oddsOf_b77 x1 x2 (fX12_oddsOf_l77 x1 x2 n) i12 M13
def fX12_oddsOf_b203_115 (x1 : Int32) (x2 : Int32) (k115 : Int32 → Mem → Option (Int32 × Mem)) (i116 : Int32) (M117 : Mem) : Option (Int32 × Mem) :=
  if (mgI M117 1246 0 0) ≤ i116 then (ix x1 64 <| nm (mgI M117 5200 0 x1.toNatClampNeg) fun v119 => nm (msI M117 8200 0 ((5 : Int32).toNatClampNeg) v119) fun M120 => ix x1 64 <| if (mgI M120 5800 0 x1.toNatClampNeg) = 0 then (nm (msI M120 8200 0 ((6 : Int32).toNatClampNeg) (0 : Int32)) fun M122 => bE (fX12_gives x2 M122) fun b123 M124 => if 0 ≤ b123 then (if b123 ≤ (1000 : Int32) then (some (b123, M124)) else (some ((1000 : Int32), M124))) else (some ((0 : Int32), M124))) else (nm (msI M120 8200 0 ((6 : Int32).toNatClampNeg) (1 : Int32)) fun M127 => bE (fX12_gives x2 M127) fun b128 M129 => if 0 ≤ b128 then (if b128 ≤ (1000 : Int32) then (some (b128, M129)) else (some ((1000 : Int32), M129))) else (some ((0 : Int32), M129)))) else (ix i116 60 <| bd (fX12_isOn x1 (mgI M117 8400 0 i116.toNatClampNeg) M117) fun b132 => if b132 = 0 then (nm ((mgI M117 8200 0 (4 : Int32).toNatClampNeg) + (0 : Int32)) fun v134 => nm (msI M117 8200 0 ((4 : Int32).toNatClampNeg) v134) fun M135 => nm (i116 + (1 : Int32)) fun v136 => k115 v136 M135) else (ix i116 60 <| ix (mgI M117 8400 0 i116.toNatClampNeg) 64 <| if (mgI M117 5400 0 (mgI M117 8400 0 i116.toNatClampNeg).toNatClampNeg) < 0 then (nm ((mgI M117 8200 0 (4 : Int32).toNatClampNeg) + (0 : Int32)) fun v138 => nm (msI M117 8200 0 ((4 : Int32).toNatClampNeg) v138) fun M139 => nm (i116 + (1 : Int32)) fun v140 => k115 v140 M139) else (ix i116 60 <| if 0 ≤ (mgI M117 8600 0 i116.toNatClampNeg) then (nm ((mgI M117 8200 0 (4 : Int32).toNatClampNeg) + (0 : Int32)) fun v142 => nm (msI M117 8200 0 ((4 : Int32).toNatClampNeg) v142) fun M143 => nm (i116 + (1 : Int32)) fun v144 => k115 v144 M143) else (nm ((mgI M117 8200 0 (4 : Int32).toNatClampNeg) + (1 : Int32)) fun v145 => nm (msI M117 8200 0 ((4 : Int32).toNatClampNeg) v145) fun M146 => nm (i116 + (1 : Int32)) fun v147 => k115 v147 M146))))
def fX12_oddsOf_l203_115 (x1 : Int32) (x2 : Int32) : Nat → Int32 → Mem → Option (Int32 × Mem)
  | 0, _, _ => none
  | n + 1, i116, M117 => fX12_oddsOf_b203_115 x1 x2 (fX12_oddsOf_l203_115 x1 x2 n) i116 M117
def fX12_oddsOf_b203_149 (x1 : Int32) (x2 : Int32) (k149 : Int32 → Mem → Option (Int32 × Mem)) (i150 : Int32) (M151 : Mem) : Option (Int32 × Mem) :=
  if (mgI M151 1246 0 0) ≤ i150 then (ix x1 64 <| nm (mgI M151 5200 0 x1.toNatClampNeg) fun v153 => nm (msI M151 8200 0 ((5 : Int32).toNatClampNeg) v153) fun M154 => ix x1 64 <| if (mgI M154 5800 0 x1.toNatClampNeg) = 0 then (nm (msI M154 8200 0 ((6 : Int32).toNatClampNeg) (0 : Int32)) fun M156 => bE (fX12_gives x2 M156) fun b157 M158 => if 0 ≤ b157 then (if b157 ≤ (1000 : Int32) then (some (b157, M158)) else (some ((1000 : Int32), M158))) else (some ((0 : Int32), M158))) else (nm (msI M154 8200 0 ((6 : Int32).toNatClampNeg) (1 : Int32)) fun M161 => bE (fX12_gives x2 M161) fun b162 M163 => if 0 ≤ b162 then (if b162 ≤ (1000 : Int32) then (some (b162, M163)) else (some ((1000 : Int32), M163))) else (some ((0 : Int32), M163)))) else (ix i150 60 <| bd (fX12_isOn x1 (mgI M151 8400 0 i150.toNatClampNeg) M151) fun b166 => if b166 = 0 then (nm ((mgI M151 8200 0 (4 : Int32).toNatClampNeg) + (0 : Int32)) fun v168 => nm (msI M151 8200 0 ((4 : Int32).toNatClampNeg) v168) fun M169 => nm (i150 + (1 : Int32)) fun v170 => k149 v170 M169) else (ix i150 60 <| ix (mgI M151 8400 0 i150.toNatClampNeg) 64 <| if (mgI M151 5400 0 (mgI M151 8400 0 i150.toNatClampNeg).toNatClampNeg) < 0 then (nm ((mgI M151 8200 0 (4 : Int32).toNatClampNeg) + (0 : Int32)) fun v172 => nm (msI M151 8200 0 ((4 : Int32).toNatClampNeg) v172) fun M173 => nm (i150 + (1 : Int32)) fun v174 => k149 v174 M173) else (ix i150 60 <| if 0 ≤ (mgI M151 8600 0 i150.toNatClampNeg) then (nm ((mgI M151 8200 0 (4 : Int32).toNatClampNeg) + (0 : Int32)) fun v176 => nm (msI M151 8200 0 ((4 : Int32).toNatClampNeg) v176) fun M177 => nm (i150 + (1 : Int32)) fun v178 => k149 v178 M177) else (nm ((mgI M151 8200 0 (4 : Int32).toNatClampNeg) + (1 : Int32)) fun v179 => nm (msI M151 8200 0 ((4 : Int32).toNatClampNeg) v179) fun M180 => nm (i150 + (1 : Int32)) fun v181 => k149 v181 M180))))
def fX12_oddsOf_l203_149 (x1 : Int32) (x2 : Int32) : Nat → Int32 → Mem → Option (Int32 × Mem)
  | 0, _, _ => none
  | n + 1, i150, M151 => fX12_oddsOf_b203_149 x1 x2 (fX12_oddsOf_l203_149 x1 x2 n) i150 M151
def fX12_oddsOf_b77_110 (x1 : Int32) (x2 : Int32) (k110 : Int32 → Mem → Option (Int32 × Mem)) (i111 : Int32) (M112 : Mem) : Option (Int32 × Mem) :=
  if (mgI M112 1212 0 0) ≤ i111 then (if (mgI M112 8200 0 (3 : Int32).toNatClampNeg) = 0 then (nm (msI M112 8200 0 ((2 : Int32).toNatClampNeg) (0 : Int32)) fun M148 => fX12_oddsOf_l203_149 x1 x2 FU (0 : Int32) M148) else (fX12_oddsOf_l203_115 x1 x2 FU (0 : Int32) M112)) else (ix i111 200 <| if (mgI M112 5900 0 i111.toNatClampNeg) = x1 then (ix i111 200 <| if (mgI M112 6300 0 i111.toNatClampNeg) = 0 then (ix i111 200 <| if (mgI M112 6100 0 i111.toNatClampNeg) ≤ (mgI M112 8200 0 (1 : Int32).toNatClampNeg) then (ix i111 200 <| if (mgI M112 8200 0 (2 : Int32).toNatClampNeg) ≤ (mgI M112 6200 0 i111.toNatClampNeg) then (nm ((mgI M112 8200 0 (3 : Int32).toNatClampNeg) + (1 : Int32)) fun v187 => nm (msI M112 8200 0 ((3 : Int32).toNatClampNeg) v187) fun M188 => nm (i111 + (1 : Int32)) fun v189 => k110 v189 M188) else (ix i111 200 <| nm (mgI M112 6200 0 i111.toNatClampNeg) fun v190 => nm (msI M112 8200 0 ((2 : Int32).toNatClampNeg) v190) fun M191 => nm ((mgI M191 8200 0 (3 : Int32).toNatClampNeg) + (1 : Int32)) fun v192 => nm (msI M191 8200 0 ((3 : Int32).toNatClampNeg) v192) fun M193 => nm (i111 + (1 : Int32)) fun v194 => k110 v194 M193)) else (ix i111 200 <| nm (mgI M112 6100 0 i111.toNatClampNeg) fun v195 => nm (msI M112 8200 0 ((1 : Int32).toNatClampNeg) v195) fun M196 => ix i111 200 <| if (mgI M196 8200 0 (2 : Int32).toNatClampNeg) ≤ (mgI M196 6200 0 i111.toNatClampNeg) then (nm ((mgI M196 8200 0 (3 : Int32).toNatClampNeg) + (1 : Int32)) fun v198 => nm (msI M196 8200 0 ((3 : Int32).toNatClampNeg) v198) fun M199 => nm (i111 + (1 : Int32)) fun v200 => k110 v200 M199) else (ix i111 200 <| nm (mgI M196 6200 0 i111.toNatClampNeg) fun v201 => nm (msI M196 8200 0 ((2 : Int32).toNatClampNeg) v201) fun M202 => nm ((mgI M202 8200 0 (3 : Int32).toNatClampNeg) + (1 : Int32)) fun v203 => nm (msI M202 8200 0 ((3 : Int32).toNatClampNeg) v203) fun M204 => nm (i111 + (1 : Int32)) fun v205 => k110 v205 M204))) else (nm (i111 + (1 : Int32)) fun v206 => k110 v206 M112)) else (nm (i111 + (1 : Int32)) fun v183 => k110 v183 M112))
def fX12_oddsOf_l77_110 (x1 : Int32) (x2 : Int32) : Nat → Int32 → Mem → Option (Int32 × Mem)
  | 0, _, _ => none
  | n + 1, i111, M112 => fX12_oddsOf_b77_110 x1 x2 (fX12_oddsOf_l77_110 x1 x2 n) i111 M112
def fX12_oddsOf_b22 (x1 : Int32) (x2 : Int32) (k2 : Int32 → Mem → Option (Int32 × Mem)) (i3 : Int32) (M4 : Mem) : Option (Int32 × Mem) :=
  if (7 : Int32) ≤ i3 then (bd (fX12_takenFirst x1 M4) fun b6 => if 0 ≤ b6 then (nm ((mgI M4 1201 0 0) - b6) fun v8 => nm (msI M4 8200 0 ((0 : Int32).toNatClampNeg) v8) fun M9 => nm (msI M9 8200 0 ((2 : Int32).toNatClampNeg) (3 : Int32)) fun M10 => fX12_oddsOf_l77 x1 x2 FU (0 : Int32) M10) else (nm (msI M4 8200 0 ((0 : Int32).toNatClampNeg) (0 : Int32)) fun M108 => nm (msI M108 8200 0 ((2 : Int32).toNatClampNeg) (3 : Int32)) fun M109 => fX12_oddsOf_l77_110 x1 x2 FU (0 : Int32) M109)) else (ix i3 7 <| nm (msI M4 8200 0 i3.toNatClampNeg (0 : Int32)) fun M207 => nm (i3 + (1 : Int32)) fun v208 => k2 v208 M207)
def fX12_oddsOf_l22 (x1 : Int32) (x2 : Int32) : Nat → Int32 → Mem → Option (Int32 × Mem)
  | 0, _, _ => none
  | n + 1, i3, M4 => fX12_oddsOf_b22 x1 x2 (fX12_oddsOf_l22 x1 x2 n) i3 M4
def fX12_oddsOf (x1 : Int32) (x2 : Int32) (M0 : Mem) : Option (Int32 × Mem) :=
  ix x2 3 <| if (mgI M0 7900 0 x2.toNatClampNeg) = 0 then (if x2 = 0 then (some ((100 : Int32), M0)) else (some ((0 : Int32), M0))) else (fX12_oddsOf_l22 x1 x2 FU (0 : Int32) M0)
set_option maxHeartbeats 4000000 in
set_option maxRecDepth 100000 in
theorem mX12_oddsOf {l : Launch} {D : va_G} {cy : Nat → ClassId} {A : Nat → Prop} {Z : State → Heap → Prop} {ad : Nat → Nat → Nat} (hZk : ZOK A Z) (x1 : Int32) (x2 : Int32) (M0 : Mem) (r : Int32) (M' : Mem) (h : fX12_oddsOf x1 x2 M0 = some (r, M')) : Met l yX12_oddsOf (wt yX12_oddsOf cX12_oddsOf 5 (some .int)) (rm 3 71) (CPre D cy A Z cnM ad M0 [.ref (ad 12 0), .int x1, .int x2]) (QI D cy A cnM ad r M') 0 0 A := by
  refine tb_start [.ref (ad 12 0), .int x1, .int x2] [(0, .ref (ad 12 0)), (1, .int x1), (2, .int x2)] RX12 rfl (by decide +kernel) (Nat.le_of_ble_eq_true rfl) rfl (fun p e s m args below meth c hx hb hr hml hown hts hlk hW hK hZ ls hl => ?_)
  have hS : va_S A s.heap s.heap [] := va_S.rf
  unfold fX12_oddsOf at h
  refine lv_aload_n hx hb dX12_oddsOf_0 rfl (lv_at hl 0 rfl) ?_
  refine gtX12_100 hx hb hts hown hK hW cz12 dX12_oddsOf_1 ?_
  refine lv_iload_n hx hb dX12_oddsOf_4 rfl (lv_at hl 2 rfl) ?_
  obtain ⟨hj, h⟩ := ix_a h
  refine al79 hx hb hK hW cz79 hj dX12_oddsOf_5 ?_
  refine lv_if_ne (tgt := 20) hx hb dX12_oddsOf_6 (by decide) (fun c1 => ?_) (fun c1 => ?_)
  · have h := sh_f c1 h
    refine lv_iconst (v := (0 : Int32)) hx hb dX12_oddsOf_20 (by decide) ?_
    refine lv_istore_n (lv' := [(3, .int (0 : Int32)), (0, .ref (ad 12 0)), (1, .int x1), (2, .int x2)]) hx hb dX12_oddsOf_21 rfl hl (by decide) rfl (fun ls hl => ?_)
    have L2 : ∀ (n2 : Nat) (i3 : Int32) (M4 : Mem) (H : Heap) (locs : List Loc) (ls : Array Slot), Wd D cy A cnM ad M4 H → va_S A s.heap H locs → lv_has ls 5 [(0, .ref (ad 12 0)), (1, .int x1), (2, .int x2), (3, .int i3)] → fX12_oddsOf_l22 x1 x2 n2 i3 M4 = some (r, M') → W p l e (rm 3 71) s m args below meth c H locs 0 0 (MQ below (QI D cy A cnM ad r M') args s 0 0 A) (F0 m 22 ls []) := by
      intro n2
      induction n2 with
      | zero => intro i3 M4 H locs ls hW hS hl h; cases h
      | succ n2 ih2 =>
        intro i3 M4 H locs ls hW hS hl h
        unfold fX12_oddsOf_l22 fX12_oddsOf_b22 at h
        refine lv_iload_n hx hb dX12_oddsOf_22 rfl (lv_at hl 3 rfl) ?_
        refine lv_bipush (v := (7 : Int32)) hx hb dX12_oddsOf_23 (by decide) ?_
        refine lv_icmp_ge (tgt := 41) hx hb dX12_oddsOf_25 (by decide) (fun c5 => ?_) (fun c5 => ?_)
        · have h := sh_t c5 h
          refine lv_aload_n hx hb dX12_oddsOf_41 rfl (lv_at hl 0 rfl) ?_
          refine lv_iload_n hx hb dX12_oddsOf_42 rfl (lv_at hl 1 rfl) ?_
          obtain ⟨b6, hcb6, h⟩ := bd_a h
          refine tb_cVI hZk hx hb hml hown hts hK hZ hW hS [.int x1] (mX12_takenFirst (l := l) hZk x1 M4 b6 hcb6) pmX12_takenFirst tw1447 (Wd.recv hK hW (t := 12) (by decide) cz12 (C := RX12) (T := TX12) (N := 58) rfl) ⟨Nat.le_of_ble_eq_true rfl, Nat.le_of_ble_eq_true rfl⟩ rfl hl.1 (Nat.le_of_ble_eq_true rfl) ⟨Nat.le_refl _, Nat.le_refl _⟩ rfl dX12_oddsOf_43 (fun H locs hW hS => ?_)
          refine lv_istore_n (lv' := [(3, .int b6), (0, .ref (ad 12 0)), (1, .int x1), (2, .int x2)]) hx hb dX12_oddsOf_46 rfl hl (by decide) rfl (fun ls hl => ?_)
          refine lv_aload_n hx hb dX12_oddsOf_47 rfl (lv_at hl 1 rfl) ?_
          refine gtX12_110 hx hb hts hown hK hW cz12 dX12_oddsOf_48 ?_
          refine lv_iconst (v := (0 : Int32)) hx hb dX12_oddsOf_51 (by decide) ?_
          refine lv_iload_n hx hb dX12_oddsOf_52 rfl (lv_at hl 0 rfl) ?_
          refine lv_if_ge (tgt := 60) hx hb dX12_oddsOf_53 (by decide) (fun c7 => ?_) (fun c7 => ?_)
          · have h := sh_t c7 h
            refine lv_aload_n hx hb dX12_oddsOf_60 rfl (lv_at hl 1 rfl) ?_
            refine gtX12_160 hx hb hts hown hK hW cz12 dX12_oddsOf_61 ?_
            refine lv_iload_n hx hb dX12_oddsOf_64 rfl (lv_at hl 0 rfl) ?_
            refine lv_isub hx hb dX12_oddsOf_65 ?_
            refine lv_topi (fun v8 ev8 => ?_)
            have h := nm_a ev8 h
            refine as82 hx hb hK hW hS cz82 (vp_in_iff.mpr (by decide)) dX12_oddsOf_66 (fun H locs hW hS => ?_)
            obtain ⟨M9, eM9⟩ : ∃ y, y = msI M4 8200 0 ((0 : Int32).toNatClampNeg) v8 := ⟨_, rfl⟩
            have h := nm_a eM9 h
            rw [← eM9] at hW
            refine lv_aload_n hx hb dX12_oddsOf_67 rfl (lv_at hl 1 rfl) ?_
            refine gtX12_110 hx hb hts hown hK hW cz12 dX12_oddsOf_68 ?_
            refine lv_iconst (v := (2 : Int32)) hx hb dX12_oddsOf_71 (by decide) ?_
            refine lv_iconst (v := (3 : Int32)) hx hb dX12_oddsOf_72 (by decide) ?_
            refine as82 hx hb hK hW hS cz82 (vp_in_iff.mpr (by decide)) dX12_oddsOf_73 (fun H locs hW hS => ?_)
            obtain ⟨M10, eM10⟩ : ∃ y, y = msI M9 8200 0 ((2 : Int32).toNatClampNeg) (3 : Int32) := ⟨_, rfl⟩
            have h := nm_a eM10 h
            rw [← eM10] at hW
            refine lv_iconst (v := (0 : Int32)) hx hb dX12_oddsOf_74 (by decide) ?_
            refine lv_istore (lv' := [(4, .int (0 : Int32)), (3, .int b6), (0, .ref (ad 12 0)), (1, .int x1), (2, .int x2)]) hx hb dX12_oddsOf_75 hl (by decide) rfl (fun ls hl => ?_)
            have L11 : ∀ (n11 : Nat) (i12 : Int32) (M13 : Mem) (H : Heap) (locs : List Loc) (ls : Array Slot), Wd D cy A cnM ad M13 H → va_S A s.heap H locs → lv_has ls 5 [(0, .ref (ad 12 0)), (1, .int x1), (2, .int x2), (4, .int i12)] → fX12_oddsOf_l77 x1 x2 n11 i12 M13 = some (r, M') → W p l e (rm 3 71) s m args below meth c H locs 0 0 (MQ below (QI D cy A cnM ad r M') args s 0 0 A) (F0 m 77 ls []) := by
              intro n11
              induction n11 with
              | zero => intro i12 M13 H locs ls hW hS hl h; cases h
              | succ n11 ih11 =>
                intro i12 M13 H locs ls hW hS hl h
                unfold fX12_oddsOf_l77 fX12_oddsOf_b77 at h
                refine lv_iload hx hb dX12_oddsOf_77 (lv_at hl 3 rfl) ?_
                refine lv_aload_n hx hb dX12_oddsOf_79 rfl (lv_at hl 0 rfl) ?_
                refine gtX12_154 hx hb hts hown hK hW cz12 dX12_oddsOf_80 ?_
                refine lv_icmp_ge (tgt := 184) hx hb dX12_oddsOf_83 (by decide) (fun c14 => ?_) (fun c14 => ?_)
                · have h := sh_t c14 h
                  refine lv_aload_n hx hb dX12_oddsOf_184 rfl (lv_at hl 0 rfl) ?_
                  refine gtX12_110 hx hb hts hown hK hW cz12 dX12_oddsOf_185 ?_
                  refine lv_iconst (v := (3 : Int32)) hx hb dX12_oddsOf_188 (by decide) ?_
                  refine al82 hx hb hK hW cz82 (vp_in_iff.mpr (by decide)) dX12_oddsOf_189 ?_
                  refine lv_if_ne (tgt := 200) hx hb dX12_oddsOf_190 (by decide) (fun c15 => ?_) (fun c15 => ?_)
                  · have h := sh_f c15 h
                    refine lv_iconst (v := (0 : Int32)) hx hb dX12_oddsOf_200 (by decide) ?_
                    refine lv_istore (lv' := [(4, .int (0 : Int32)), (0, .ref (ad 12 0)), (1, .int x1), (2, .int x2)]) hx hb dX12_oddsOf_201 hl (by decide) rfl (fun ls hl => ?_)
                    have L16 : ∀ (n16 : Nat) (i17 : Int32) (M18 : Mem) (H : Heap) (locs : List Loc) (ls : Array Slot), Wd D cy A cnM ad M18 H → va_S A s.heap H locs → lv_has ls 5 [(0, .ref (ad 12 0)), (1, .int x1), (2, .int x2), (4, .int i17)] → fX12_oddsOf_l203 x1 x2 n16 i17 M18 = some (r, M') → W p l e (rm 3 71) s m args below meth c H locs 0 0 (MQ below (QI D cy A cnM ad r M') args s 0 0 A) (F0 m 203 ls []) := by
                      intro n16
                      induction n16 with
                      | zero => intro i17 M18 H locs ls hW hS hl h; cases h
                      | succ n16 ih16 =>
                        intro i17 M18 H locs ls hW hS hl h
                        unfold fX12_oddsOf_l203 fX12_oddsOf_b203 at h
                        refine lv_iload hx hb dX12_oddsOf_203 (lv_at hl 3 rfl) ?_
                        refine lv_aload_n hx hb dX12_oddsOf_205 rfl (lv_at hl 0 rfl) ?_
                        refine gtX12_319 hx hb hts hown hK hW cz12 dX12_oddsOf_206 ?_
                        refine lv_icmp_ge (tgt := 272) hx hb dX12_oddsOf_209 (by decide) (fun c19 => ?_) (fun c19 => ?_)
                        · have h := sh_t c19 h
                          refine lv_aload_n hx hb dX12_oddsOf_272 rfl (lv_at hl 0 rfl) ?_
                          refine gtX12_110 hx hb hts hown hK hW cz12 dX12_oddsOf_273 ?_
                          refine lv_iconst (v := (5 : Int32)) hx hb dX12_oddsOf_276 (by decide) ?_
                          refine lv_aload_n hx hb dX12_oddsOf_277 rfl (lv_at hl 0 rfl) ?_
                          refine gtX12_16 hx hb hts hown hK hW cz12 dX12_oddsOf_278 ?_
                          refine lv_iload_n hx hb dX12_oddsOf_281 rfl (lv_at hl 1 rfl) ?_
                          obtain ⟨hj, h⟩ := ix_a h
                          refine al52 hx hb hK hW cz52 hj dX12_oddsOf_282 ?_
                          refine lv_topi (fun v20 ev20 => ?_)
                          have h := nm_a ev20 h
                          refine as82 hx hb hK hW hS cz82 (vp_in_iff.mpr (by decide)) dX12_oddsOf_283 (fun H locs hW hS => ?_)
                          obtain ⟨M21, eM21⟩ : ∃ y, y = msI M18 8200 0 ((5 : Int32).toNatClampNeg) v20 := ⟨_, rfl⟩
                          have h := nm_a eM21 h
                          rw [← eM21] at hW
                          refine lv_aload_n hx hb dX12_oddsOf_284 rfl (lv_at hl 0 rfl) ?_
                          refine gtX12_110 hx hb hts hown hK hW cz12 dX12_oddsOf_285 ?_
                          refine lv_bipush (v := (6 : Int32)) hx hb dX12_oddsOf_288 (by decide) ?_
                          refine lv_aload_n hx hb dX12_oddsOf_290 rfl (lv_at hl 0 rfl) ?_
                          refine gtX12_34 hx hb hts hown hK hW cz12 dX12_oddsOf_291 ?_
                          refine lv_iload_n hx hb dX12_oddsOf_294 rfl (lv_at hl 1 rfl) ?_
                          obtain ⟨hj, h⟩ := ix_a h
                          refine al58 hx hb hK hW cz58 hj dX12_oddsOf_295 ?_
                          refine lv_if_eq (tgt := 303) hx hb dX12_oddsOf_296 (by decide) (fun c22 => ?_) (fun c22 => ?_)
                          · have h := sh_t c22 h
                            refine lv_iconst (v := (0 : Int32)) hx hb dX12_oddsOf_303 (by decide) ?_
                            refine as82 hx hb hK hW hS cz82 (vp_in_iff.mpr (by decide)) dX12_oddsOf_304 (fun H locs hW hS => ?_)
                            obtain ⟨M23, eM23⟩ : ∃ y, y = msI M21 8200 0 ((6 : Int32).toNatClampNeg) (0 : Int32) := ⟨_, rfl⟩
                            have h := nm_a eM23 h
                            rw [← eM23] at hW
                            refine lv_aload_n hx hb dX12_oddsOf_305 rfl (lv_at hl 0 rfl) ?_
                            refine lv_iload_n hx hb dX12_oddsOf_306 rfl (lv_at hl 2 rfl) ?_
                            obtain ⟨b24, M25, hcb24, h⟩ := bE_a h
                            refine tb_cVI hZk hx hb hml hown hts hK hZ hW hS [.int x2] (mX12_gives (l := l) hZk x2 M23 b24 M25 hcb24) pmX12_gives tw1621 (Wd.recv hK hW (t := 12) (by decide) cz12 (C := RX12) (T := TX12) (N := 58) rfl) ⟨Nat.le_of_ble_eq_true rfl, Nat.le_of_ble_eq_true rfl⟩ rfl hl.1 (Nat.le_of_ble_eq_true rfl) ⟨Nat.le_refl _, Nat.le_refl _⟩ rfl dX12_oddsOf_307 (fun H locs hW hS => ?_)
                            refine lv_istore (lv' := [(4, .int b24), (0, .ref (ad 12 0)), (1, .int x1), (2, .int x2)]) hx hb dX12_oddsOf_310 hl (by decide) rfl (fun ls hl => ?_)
                            refine lv_iload hx hb dX12_oddsOf_312 (lv_at hl 0 rfl) ?_
                            refine lv_if_ge (tgt := 321) hx hb dX12_oddsOf_314 (by decide) (fun c26 => ?_) (fun c26 => ?_)
                            · have h := sh_t c26 h
                              refine lv_iload hx hb dX12_oddsOf_321 (lv_at hl 0 rfl) ?_
                              refine lv_sipush (v := (1000 : Int32)) hx hb dX12_oddsOf_323 (by decide) ?_
                              refine lv_icmp_le (tgt := 335) hx hb dX12_oddsOf_326 (by decide) (fun c27 => ?_) (fun c27 => ?_)
                              · have h := sh_t c27 h
                                refine lv_iload hx hb dX12_oddsOf_335 (lv_at hl 0 rfl) ?_
                                exact tb_iretE h hx hb hr hS hW hlk dX12_oddsOf_337
                              · have h := sh_f c27 h
                                refine lv_sipush (v := (1000 : Int32)) hx hb dX12_oddsOf_329 (by decide) ?_
                                refine lv_goto (tgt := 337) hx hb dX12_oddsOf_332 (by decide) ?_
                                exact tb_iretE h hx hb hr hS hW hlk dX12_oddsOf_337
                            · have h := sh_f c26 h
                              refine lv_iconst (v := (0 : Int32)) hx hb dX12_oddsOf_317 (by decide) ?_
                              refine lv_goto (tgt := 337) hx hb dX12_oddsOf_318 (by decide) ?_
                              exact tb_iretE h hx hb hr hS hW hlk dX12_oddsOf_337
                          · have h := sh_f c22 h
                            refine lv_iconst (v := (1 : Int32)) hx hb dX12_oddsOf_299 (by decide) ?_
                            refine lv_goto (tgt := 304) hx hb dX12_oddsOf_300 (by decide) ?_
                            refine as82 hx hb hK hW hS cz82 (vp_in_iff.mpr (by decide)) dX12_oddsOf_304 (fun H locs hW hS => ?_)
                            obtain ⟨M28, eM28⟩ : ∃ y, y = msI M21 8200 0 ((6 : Int32).toNatClampNeg) (1 : Int32) := ⟨_, rfl⟩
                            have h := nm_a eM28 h
                            rw [← eM28] at hW
                            refine lv_aload_n hx hb dX12_oddsOf_305 rfl (lv_at hl 0 rfl) ?_
                            refine lv_iload_n hx hb dX12_oddsOf_306 rfl (lv_at hl 2 rfl) ?_
                            obtain ⟨b29, M30, hcb29, h⟩ := bE_a h
                            refine tb_cVI hZk hx hb hml hown hts hK hZ hW hS [.int x2] (mX12_gives (l := l) hZk x2 M28 b29 M30 hcb29) pmX12_gives tw1621 (Wd.recv hK hW (t := 12) (by decide) cz12 (C := RX12) (T := TX12) (N := 58) rfl) ⟨Nat.le_of_ble_eq_true rfl, Nat.le_of_ble_eq_true rfl⟩ rfl hl.1 (Nat.le_of_ble_eq_true rfl) ⟨Nat.le_refl _, Nat.le_refl _⟩ rfl dX12_oddsOf_307 (fun H locs hW hS => ?_)
                            refine lv_istore (lv' := [(4, .int b29), (0, .ref (ad 12 0)), (1, .int x1), (2, .int x2)]) hx hb dX12_oddsOf_310 hl (by decide) rfl (fun ls hl => ?_)
                            refine lv_iload hx hb dX12_oddsOf_312 (lv_at hl 0 rfl) ?_
                            refine lv_if_ge (tgt := 321) hx hb dX12_oddsOf_314 (by decide) (fun c31 => ?_) (fun c31 => ?_)
                            · have h := sh_t c31 h
                              refine lv_iload hx hb dX12_oddsOf_321 (lv_at hl 0 rfl) ?_
                              refine lv_sipush (v := (1000 : Int32)) hx hb dX12_oddsOf_323 (by decide) ?_
                              refine lv_icmp_le (tgt := 335) hx hb dX12_oddsOf_326 (by decide) (fun c32 => ?_) (fun c32 => ?_)
                              · have h := sh_t c32 h
                                refine lv_iload hx hb dX12_oddsOf_335 (lv_at hl 0 rfl) ?_
                                exact tb_iretE h hx hb hr hS hW hlk dX12_oddsOf_337
                              · have h := sh_f c32 h
                                refine lv_sipush (v := (1000 : Int32)) hx hb dX12_oddsOf_329 (by decide) ?_
                                refine lv_goto (tgt := 337) hx hb dX12_oddsOf_332 (by decide) ?_
                                exact tb_iretE h hx hb hr hS hW hlk dX12_oddsOf_337
                            · have h := sh_f c31 h
                              refine lv_iconst (v := (0 : Int32)) hx hb dX12_oddsOf_317 (by decide) ?_
                              refine lv_goto (tgt := 337) hx hb dX12_oddsOf_318 (by decide) ?_
                              exact tb_iretE h hx hb hr hS hW hlk dX12_oddsOf_337
                        · have h := sh_f c19 h
                          refine lv_aload_n hx hb dX12_oddsOf_212 rfl (lv_at hl 0 rfl) ?_
                          refine gtX12_110 hx hb hts hown hK hW cz12 dX12_oddsOf_213 ?_
                          refine lv_iconst (v := (4 : Int32)) hx hb dX12_oddsOf_216 (by decide) ?_
                          refine lv_dup2_11 hx hb dX12_oddsOf_217 rfl rfl ?_
                          refine al82 hx hb hK hW cz82 (vp_in_iff.mpr (by decide)) dX12_oddsOf_218 ?_
                          refine lv_aload_n hx hb dX12_oddsOf_219 rfl (lv_at hl 0 rfl) ?_
                          refine lv_iload_n hx hb dX12_oddsOf_220 rfl (lv_at hl 1 rfl) ?_
                          refine lv_aload_n hx hb dX12_oddsOf_221 rfl (lv_at hl 0 rfl) ?_
                          refine gtX12_116 hx hb hts hown hK hW cz12 dX12_oddsOf_222 ?_
                          refine lv_iload hx hb dX12_oddsOf_225 (lv_at hl 3 rfl) ?_
                          obtain ⟨hj, h⟩ := ix_a h
                          refine al84 hx hb hK hW cz84 hj dX12_oddsOf_227 ?_
                          obtain ⟨b33, hcb33, h⟩ := bd_a h
                          refine tb_cVZ hZk hx hb hml hown hts hK hZ hW hS [.int x1, .int (mgI M18 8400 0 i17.toNatClampNeg)] (mX12_isOn (l := l) hZk x1 (mgI M18 8400 0 i17.toNatClampNeg) M18 b33 hcb33) pmX12_isOn tw1451 (Wd.recv hK hW (t := 12) (by decide) cz12 (C := RX12) (T := TX12) (N := 58) rfl) ⟨Nat.le_of_ble_eq_true rfl, Nat.le_of_ble_eq_true rfl⟩ rfl hl.1 (Nat.le_of_ble_eq_true rfl) ⟨Nat.le_refl _, Nat.le_refl _⟩ rfl dX12_oddsOf_228 (fun H locs hW hS hzz => ?_)
                          have hzb33 := hzz
                          refine lv_if_eq (tgt := 263) hx hb dX12_oddsOf_231 (by decide) (fun c34 => ?_) (fun c34 => ?_)
                          · have h := sh_t c34 h
                            refine lv_iconst (v := (0 : Int32)) hx hb dX12_oddsOf_263 (by decide) ?_
                            refine lv_iadd hx hb dX12_oddsOf_264 ?_
                            refine lv_topi (fun v35 ev35 => ?_)
                            have h := nm_a ev35 h
                            refine as82 hx hb hK hW hS cz82 (vp_in_iff.mpr (by decide)) dX12_oddsOf_265 (fun H locs hW hS => ?_)
                            obtain ⟨M36, eM36⟩ : ∃ y, y = msI M18 8200 0 ((4 : Int32).toNatClampNeg) v35 := ⟨_, rfl⟩
                            have h := nm_a eM36 h
                            rw [← eM36] at hW
                            obtain ⟨v37, ev37⟩ : ∃ y : Int32, y = i17 + (1 : Int32) := ⟨_, rfl⟩
                            have h := nm_a ev37 h
                            refine lv_iinc (v := v37) (lv' := [(4, .int v37), (0, .ref (ad 12 0)), (1, .int x1), (2, .int x2)]) hx hb dX12_oddsOf_266 hl (k := 3) rfl (by rw [ev37]; rfl) (by decide) rfl (fun ls hl => ?_)
                            refine lv_goto (tgt := 203) hx hb dX12_oddsOf_269 (by decide) ?_
                            exact ih16 v37 M36 _ _ _ hW hS (lv_sub hl [1, 2, 3, 0] rfl) h
                          · have h := sh_f c34 h
                            refine lv_aload_n hx hb dX12_oddsOf_234 rfl (lv_at hl 0 rfl) ?_
                            refine gtX12_22 hx hb hts hown hK hW cz12 dX12_oddsOf_235 ?_
                            refine lv_aload_n hx hb dX12_oddsOf_238 rfl (lv_at hl 0 rfl) ?_
                            refine gtX12_116 hx hb hts hown hK hW cz12 dX12_oddsOf_239 ?_
                            refine lv_iload hx hb dX12_oddsOf_242 (lv_at hl 3 rfl) ?_
                            obtain ⟨hj, h⟩ := ix_a h
                            refine al84 hx hb hK hW cz84 hj dX12_oddsOf_244 ?_
                            obtain ⟨hj, h⟩ := ix_a h
                            refine al54 hx hb hK hW cz54 hj dX12_oddsOf_245 ?_
                            refine lv_if_lt (tgt := 263) hx hb dX12_oddsOf_246 (by decide) (fun c38 => ?_) (fun c38 => ?_)
                            · have h := sh_t c38 h
                              refine lv_iconst (v := (0 : Int32)) hx hb dX12_oddsOf_263 (by decide) ?_
                              refine lv_iadd hx hb dX12_oddsOf_264 ?_
                              refine lv_topi (fun v39 ev39 => ?_)
                              have h := nm_a ev39 h
                              refine as82 hx hb hK hW hS cz82 (vp_in_iff.mpr (by decide)) dX12_oddsOf_265 (fun H locs hW hS => ?_)
                              obtain ⟨M40, eM40⟩ : ∃ y, y = msI M18 8200 0 ((4 : Int32).toNatClampNeg) v39 := ⟨_, rfl⟩
                              have h := nm_a eM40 h
                              rw [← eM40] at hW
                              obtain ⟨v41, ev41⟩ : ∃ y : Int32, y = i17 + (1 : Int32) := ⟨_, rfl⟩
                              have h := nm_a ev41 h
                              refine lv_iinc (v := v41) (lv' := [(4, .int v41), (0, .ref (ad 12 0)), (1, .int x1), (2, .int x2)]) hx hb dX12_oddsOf_266 hl (k := 3) rfl (by rw [ev41]; rfl) (by decide) rfl (fun ls hl => ?_)
                              refine lv_goto (tgt := 203) hx hb dX12_oddsOf_269 (by decide) ?_
                              exact ih16 v41 M40 _ _ _ hW hS (lv_sub hl [1, 2, 3, 0] rfl) h
                            · have h := sh_f c38 h
                              refine lv_aload_n hx hb dX12_oddsOf_249 rfl (lv_at hl 0 rfl) ?_
                              refine gtX12_122 hx hb hts hown hK hW cz12 dX12_oddsOf_250 ?_
                              refine lv_iload hx hb dX12_oddsOf_253 (lv_at hl 3 rfl) ?_
                              obtain ⟨hj, h⟩ := ix_a h
                              refine al86 hx hb hK hW cz86 hj dX12_oddsOf_255 ?_
                              refine lv_if_ge (tgt := 263) hx hb dX12_oddsOf_256 (by decide) (fun c42 => ?_) (fun c42 => ?_)
                              · have h := sh_t c42 h
                                refine lv_iconst (v := (0 : Int32)) hx hb dX12_oddsOf_263 (by decide) ?_
                                refine lv_iadd hx hb dX12_oddsOf_264 ?_
                                refine lv_topi (fun v43 ev43 => ?_)
                                have h := nm_a ev43 h
                                refine as82 hx hb hK hW hS cz82 (vp_in_iff.mpr (by decide)) dX12_oddsOf_265 (fun H locs hW hS => ?_)
                                obtain ⟨M44, eM44⟩ : ∃ y, y = msI M18 8200 0 ((4 : Int32).toNatClampNeg) v43 := ⟨_, rfl⟩
                                have h := nm_a eM44 h
                                rw [← eM44] at hW
                                obtain ⟨v45, ev45⟩ : ∃ y : Int32, y = i17 + (1 : Int32) := ⟨_, rfl⟩
                                have h := nm_a ev45 h
                                refine lv_iinc (v := v45) (lv' := [(4, .int v45), (0, .ref (ad 12 0)), (1, .int x1), (2, .int x2)]) hx hb dX12_oddsOf_266 hl (k := 3) rfl (by rw [ev45]; rfl) (by decide) rfl (fun ls hl => ?_)
                                refine lv_goto (tgt := 203) hx hb dX12_oddsOf_269 (by decide) ?_
                                exact ih16 v45 M44 _ _ _ hW hS (lv_sub hl [1, 2, 3, 0] rfl) h
                              · have h := sh_f c42 h
                                refine lv_iconst (v := (1 : Int32)) hx hb dX12_oddsOf_259 (by decide) ?_
                                refine lv_goto (tgt := 264) hx hb dX12_oddsOf_260 (by decide) ?_
                                refine lv_iadd hx hb dX12_oddsOf_264 ?_
                                refine lv_topi (fun v46 ev46 => ?_)
                                have h := nm_a ev46 h
                                refine as82 hx hb hK hW hS cz82 (vp_in_iff.mpr (by decide)) dX12_oddsOf_265 (fun H locs hW hS => ?_)
                                obtain ⟨M47, eM47⟩ : ∃ y, y = msI M18 8200 0 ((4 : Int32).toNatClampNeg) v46 := ⟨_, rfl⟩
                                have h := nm_a eM47 h
                                rw [← eM47] at hW
                                obtain ⟨v48, ev48⟩ : ∃ y : Int32, y = i17 + (1 : Int32) := ⟨_, rfl⟩
                                have h := nm_a ev48 h
                                refine lv_iinc (v := v48) (lv' := [(4, .int v48), (0, .ref (ad 12 0)), (1, .int x1), (2, .int x2)]) hx hb dX12_oddsOf_266 hl (k := 3) rfl (by rw [ev48]; rfl) (by decide) rfl (fun ls hl => ?_)
                                refine lv_goto (tgt := 203) hx hb dX12_oddsOf_269 (by decide) ?_
                                exact ih16 v48 M47 _ _ _ hW hS (lv_sub hl [1, 2, 3, 0] rfl) h
                    exact L16 FU (0 : Int32) M13 _ _ _ hW hS (lv_sub hl [1, 2, 3, 0] rfl) h
                  · have h := sh_t c15 h
                    refine lv_aload_n hx hb dX12_oddsOf_193 rfl (lv_at hl 0 rfl) ?_
                    refine gtX12_110 hx hb hts hown hK hW cz12 dX12_oddsOf_194 ?_
                    refine lv_iconst (v := (2 : Int32)) hx hb dX12_oddsOf_197 (by decide) ?_
                    refine lv_iconst (v := (0 : Int32)) hx hb dX12_oddsOf_198 (by decide) ?_
                    refine as82 hx hb hK hW hS cz82 (vp_in_iff.mpr (by decide)) dX12_oddsOf_199 (fun H locs hW hS => ?_)
                    obtain ⟨M49, eM49⟩ : ∃ y, y = msI M13 8200 0 ((2 : Int32).toNatClampNeg) (0 : Int32) := ⟨_, rfl⟩
                    have h := nm_a eM49 h
                    rw [← eM49] at hW
                    refine lv_iconst (v := (0 : Int32)) hx hb dX12_oddsOf_200 (by decide) ?_
                    refine lv_istore (lv' := [(4, .int (0 : Int32)), (0, .ref (ad 12 0)), (1, .int x1), (2, .int x2)]) hx hb dX12_oddsOf_201 hl (by decide) rfl (fun ls hl => ?_)
                    have L50 : ∀ (n50 : Nat) (i51 : Int32) (M52 : Mem) (H : Heap) (locs : List Loc) (ls : Array Slot), Wd D cy A cnM ad M52 H → va_S A s.heap H locs → lv_has ls 5 [(0, .ref (ad 12 0)), (1, .int x1), (2, .int x2), (4, .int i51)] → fX12_oddsOf_l203_50 x1 x2 n50 i51 M52 = some (r, M') → W p l e (rm 3 71) s m args below meth c H locs 0 0 (MQ below (QI D cy A cnM ad r M') args s 0 0 A) (F0 m 203 ls []) := by
                      intro n50
                      induction n50 with
                      | zero => intro i51 M52 H locs ls hW hS hl h; cases h
                      | succ n50 ih50 =>
                        intro i51 M52 H locs ls hW hS hl h
                        unfold fX12_oddsOf_l203_50 fX12_oddsOf_b203_50 at h
                        refine lv_iload hx hb dX12_oddsOf_203 (lv_at hl 3 rfl) ?_
                        refine lv_aload_n hx hb dX12_oddsOf_205 rfl (lv_at hl 0 rfl) ?_
                        refine gtX12_319 hx hb hts hown hK hW cz12 dX12_oddsOf_206 ?_
                        refine lv_icmp_ge (tgt := 272) hx hb dX12_oddsOf_209 (by decide) (fun c53 => ?_) (fun c53 => ?_)
                        · have h := sh_t c53 h
                          refine lv_aload_n hx hb dX12_oddsOf_272 rfl (lv_at hl 0 rfl) ?_
                          refine gtX12_110 hx hb hts hown hK hW cz12 dX12_oddsOf_273 ?_
                          refine lv_iconst (v := (5 : Int32)) hx hb dX12_oddsOf_276 (by decide) ?_
                          refine lv_aload_n hx hb dX12_oddsOf_277 rfl (lv_at hl 0 rfl) ?_
                          refine gtX12_16 hx hb hts hown hK hW cz12 dX12_oddsOf_278 ?_
                          refine lv_iload_n hx hb dX12_oddsOf_281 rfl (lv_at hl 1 rfl) ?_
                          obtain ⟨hj, h⟩ := ix_a h
                          refine al52 hx hb hK hW cz52 hj dX12_oddsOf_282 ?_
                          refine lv_topi (fun v54 ev54 => ?_)
                          have h := nm_a ev54 h
                          refine as82 hx hb hK hW hS cz82 (vp_in_iff.mpr (by decide)) dX12_oddsOf_283 (fun H locs hW hS => ?_)
                          obtain ⟨M55, eM55⟩ : ∃ y, y = msI M52 8200 0 ((5 : Int32).toNatClampNeg) v54 := ⟨_, rfl⟩
                          have h := nm_a eM55 h
                          rw [← eM55] at hW
                          refine lv_aload_n hx hb dX12_oddsOf_284 rfl (lv_at hl 0 rfl) ?_
                          refine gtX12_110 hx hb hts hown hK hW cz12 dX12_oddsOf_285 ?_
                          refine lv_bipush (v := (6 : Int32)) hx hb dX12_oddsOf_288 (by decide) ?_
                          refine lv_aload_n hx hb dX12_oddsOf_290 rfl (lv_at hl 0 rfl) ?_
                          refine gtX12_34 hx hb hts hown hK hW cz12 dX12_oddsOf_291 ?_
                          refine lv_iload_n hx hb dX12_oddsOf_294 rfl (lv_at hl 1 rfl) ?_
                          obtain ⟨hj, h⟩ := ix_a h
                          refine al58 hx hb hK hW cz58 hj dX12_oddsOf_295 ?_
                          refine lv_if_eq (tgt := 303) hx hb dX12_oddsOf_296 (by decide) (fun c56 => ?_) (fun c56 => ?_)
                          · have h := sh_t c56 h
                            refine lv_iconst (v := (0 : Int32)) hx hb dX12_oddsOf_303 (by decide) ?_
                            refine as82 hx hb hK hW hS cz82 (vp_in_iff.mpr (by decide)) dX12_oddsOf_304 (fun H locs hW hS => ?_)
                            obtain ⟨M57, eM57⟩ : ∃ y, y = msI M55 8200 0 ((6 : Int32).toNatClampNeg) (0 : Int32) := ⟨_, rfl⟩
                            have h := nm_a eM57 h
                            rw [← eM57] at hW
                            refine lv_aload_n hx hb dX12_oddsOf_305 rfl (lv_at hl 0 rfl) ?_
                            refine lv_iload_n hx hb dX12_oddsOf_306 rfl (lv_at hl 2 rfl) ?_
                            obtain ⟨b58, M59, hcb58, h⟩ := bE_a h
                            refine tb_cVI hZk hx hb hml hown hts hK hZ hW hS [.int x2] (mX12_gives (l := l) hZk x2 M57 b58 M59 hcb58) pmX12_gives tw1621 (Wd.recv hK hW (t := 12) (by decide) cz12 (C := RX12) (T := TX12) (N := 58) rfl) ⟨Nat.le_of_ble_eq_true rfl, Nat.le_of_ble_eq_true rfl⟩ rfl hl.1 (Nat.le_of_ble_eq_true rfl) ⟨Nat.le_refl _, Nat.le_refl _⟩ rfl dX12_oddsOf_307 (fun H locs hW hS => ?_)
                            refine lv_istore (lv' := [(4, .int b58), (0, .ref (ad 12 0)), (1, .int x1), (2, .int x2)]) hx hb dX12_oddsOf_310 hl (by decide) rfl (fun ls hl => ?_)
                            refine lv_iload hx hb dX12_oddsOf_312 (lv_at hl 0 rfl) ?_
                            refine lv_if_ge (tgt := 321) hx hb dX12_oddsOf_314 (by decide) (fun c60 => ?_) (fun c60 => ?_)
                            · have h := sh_t c60 h
                              refine lv_iload hx hb dX12_oddsOf_321 (lv_at hl 0 rfl) ?_
                              refine lv_sipush (v := (1000 : Int32)) hx hb dX12_oddsOf_323 (by decide) ?_
                              refine lv_icmp_le (tgt := 335) hx hb dX12_oddsOf_326 (by decide) (fun c61 => ?_) (fun c61 => ?_)
                              · have h := sh_t c61 h
                                refine lv_iload hx hb dX12_oddsOf_335 (lv_at hl 0 rfl) ?_
                                exact tb_iretE h hx hb hr hS hW hlk dX12_oddsOf_337
                              · have h := sh_f c61 h
                                refine lv_sipush (v := (1000 : Int32)) hx hb dX12_oddsOf_329 (by decide) ?_
                                refine lv_goto (tgt := 337) hx hb dX12_oddsOf_332 (by decide) ?_
                                exact tb_iretE h hx hb hr hS hW hlk dX12_oddsOf_337
                            · have h := sh_f c60 h
                              refine lv_iconst (v := (0 : Int32)) hx hb dX12_oddsOf_317 (by decide) ?_
                              refine lv_goto (tgt := 337) hx hb dX12_oddsOf_318 (by decide) ?_
                              exact tb_iretE h hx hb hr hS hW hlk dX12_oddsOf_337
                          · have h := sh_f c56 h
                            refine lv_iconst (v := (1 : Int32)) hx hb dX12_oddsOf_299 (by decide) ?_
                            refine lv_goto (tgt := 304) hx hb dX12_oddsOf_300 (by decide) ?_
                            refine as82 hx hb hK hW hS cz82 (vp_in_iff.mpr (by decide)) dX12_oddsOf_304 (fun H locs hW hS => ?_)
                            obtain ⟨M62, eM62⟩ : ∃ y, y = msI M55 8200 0 ((6 : Int32).toNatClampNeg) (1 : Int32) := ⟨_, rfl⟩
                            have h := nm_a eM62 h
                            rw [← eM62] at hW
                            refine lv_aload_n hx hb dX12_oddsOf_305 rfl (lv_at hl 0 rfl) ?_
                            refine lv_iload_n hx hb dX12_oddsOf_306 rfl (lv_at hl 2 rfl) ?_
                            obtain ⟨b63, M64, hcb63, h⟩ := bE_a h
                            refine tb_cVI hZk hx hb hml hown hts hK hZ hW hS [.int x2] (mX12_gives (l := l) hZk x2 M62 b63 M64 hcb63) pmX12_gives tw1621 (Wd.recv hK hW (t := 12) (by decide) cz12 (C := RX12) (T := TX12) (N := 58) rfl) ⟨Nat.le_of_ble_eq_true rfl, Nat.le_of_ble_eq_true rfl⟩ rfl hl.1 (Nat.le_of_ble_eq_true rfl) ⟨Nat.le_refl _, Nat.le_refl _⟩ rfl dX12_oddsOf_307 (fun H locs hW hS => ?_)
                            refine lv_istore (lv' := [(4, .int b63), (0, .ref (ad 12 0)), (1, .int x1), (2, .int x2)]) hx hb dX12_oddsOf_310 hl (by decide) rfl (fun ls hl => ?_)
                            refine lv_iload hx hb dX12_oddsOf_312 (lv_at hl 0 rfl) ?_
                            refine lv_if_ge (tgt := 321) hx hb dX12_oddsOf_314 (by decide) (fun c65 => ?_) (fun c65 => ?_)
                            · have h := sh_t c65 h
                              refine lv_iload hx hb dX12_oddsOf_321 (lv_at hl 0 rfl) ?_
                              refine lv_sipush (v := (1000 : Int32)) hx hb dX12_oddsOf_323 (by decide) ?_
                              refine lv_icmp_le (tgt := 335) hx hb dX12_oddsOf_326 (by decide) (fun c66 => ?_) (fun c66 => ?_)
                              · have h := sh_t c66 h
                                refine lv_iload hx hb dX12_oddsOf_335 (lv_at hl 0 rfl) ?_
                                exact tb_iretE h hx hb hr hS hW hlk dX12_oddsOf_337
                              · have h := sh_f c66 h
                                refine lv_sipush (v := (1000 : Int32)) hx hb dX12_oddsOf_329 (by decide) ?_
                                refine lv_goto (tgt := 337) hx hb dX12_oddsOf_332 (by decide) ?_
                                exact tb_iretE h hx hb hr hS hW hlk dX12_oddsOf_337
                            · have h := sh_f c65 h
                              refine lv_iconst (v := (0 : Int32)) hx hb dX12_oddsOf_317 (by decide) ?_
                              refine lv_goto (tgt := 337) hx hb dX12_oddsOf_318 (by decide) ?_
                              exact tb_iretE h hx hb hr hS hW hlk dX12_oddsOf_337
                        · have h := sh_f c53 h
                          refine lv_aload_n hx hb dX12_oddsOf_212 rfl (lv_at hl 0 rfl) ?_
                          refine gtX12_110 hx hb hts hown hK hW cz12 dX12_oddsOf_213 ?_
                          refine lv_iconst (v := (4 : Int32)) hx hb dX12_oddsOf_216 (by decide) ?_
                          refine lv_dup2_11 hx hb dX12_oddsOf_217 rfl rfl ?_
                          refine al82 hx hb hK hW cz82 (vp_in_iff.mpr (by decide)) dX12_oddsOf_218 ?_
                          refine lv_aload_n hx hb dX12_oddsOf_219 rfl (lv_at hl 0 rfl) ?_
                          refine lv_iload_n hx hb dX12_oddsOf_220 rfl (lv_at hl 1 rfl) ?_
                          refine lv_aload_n hx hb dX12_oddsOf_221 rfl (lv_at hl 0 rfl) ?_
                          refine gtX12_116 hx hb hts hown hK hW cz12 dX12_oddsOf_222 ?_
                          refine lv_iload hx hb dX12_oddsOf_225 (lv_at hl 3 rfl) ?_
                          obtain ⟨hj, h⟩ := ix_a h
                          refine al84 hx hb hK hW cz84 hj dX12_oddsOf_227 ?_
                          obtain ⟨b67, hcb67, h⟩ := bd_a h
                          refine tb_cVZ hZk hx hb hml hown hts hK hZ hW hS [.int x1, .int (mgI M52 8400 0 i51.toNatClampNeg)] (mX12_isOn (l := l) hZk x1 (mgI M52 8400 0 i51.toNatClampNeg) M52 b67 hcb67) pmX12_isOn tw1451 (Wd.recv hK hW (t := 12) (by decide) cz12 (C := RX12) (T := TX12) (N := 58) rfl) ⟨Nat.le_of_ble_eq_true rfl, Nat.le_of_ble_eq_true rfl⟩ rfl hl.1 (Nat.le_of_ble_eq_true rfl) ⟨Nat.le_refl _, Nat.le_refl _⟩ rfl dX12_oddsOf_228 (fun H locs hW hS hzz => ?_)
                          have hzb67 := hzz
                          refine lv_if_eq (tgt := 263) hx hb dX12_oddsOf_231 (by decide) (fun c68 => ?_) (fun c68 => ?_)
                          · have h := sh_t c68 h
                            refine lv_iconst (v := (0 : Int32)) hx hb dX12_oddsOf_263 (by decide) ?_
                            refine lv_iadd hx hb dX12_oddsOf_264 ?_
                            refine lv_topi (fun v69 ev69 => ?_)
                            have h := nm_a ev69 h
                            refine as82 hx hb hK hW hS cz82 (vp_in_iff.mpr (by decide)) dX12_oddsOf_265 (fun H locs hW hS => ?_)
                            obtain ⟨M70, eM70⟩ : ∃ y, y = msI M52 8200 0 ((4 : Int32).toNatClampNeg) v69 := ⟨_, rfl⟩
                            have h := nm_a eM70 h
                            rw [← eM70] at hW
                            obtain ⟨v71, ev71⟩ : ∃ y : Int32, y = i51 + (1 : Int32) := ⟨_, rfl⟩
                            have h := nm_a ev71 h
                            refine lv_iinc (v := v71) (lv' := [(4, .int v71), (0, .ref (ad 12 0)), (1, .int x1), (2, .int x2)]) hx hb dX12_oddsOf_266 hl (k := 3) rfl (by rw [ev71]; rfl) (by decide) rfl (fun ls hl => ?_)
                            refine lv_goto (tgt := 203) hx hb dX12_oddsOf_269 (by decide) ?_
                            exact ih50 v71 M70 _ _ _ hW hS (lv_sub hl [1, 2, 3, 0] rfl) h
                          · have h := sh_f c68 h
                            refine lv_aload_n hx hb dX12_oddsOf_234 rfl (lv_at hl 0 rfl) ?_
                            refine gtX12_22 hx hb hts hown hK hW cz12 dX12_oddsOf_235 ?_
                            refine lv_aload_n hx hb dX12_oddsOf_238 rfl (lv_at hl 0 rfl) ?_
                            refine gtX12_116 hx hb hts hown hK hW cz12 dX12_oddsOf_239 ?_
                            refine lv_iload hx hb dX12_oddsOf_242 (lv_at hl 3 rfl) ?_
                            obtain ⟨hj, h⟩ := ix_a h
                            refine al84 hx hb hK hW cz84 hj dX12_oddsOf_244 ?_
                            obtain ⟨hj, h⟩ := ix_a h
                            refine al54 hx hb hK hW cz54 hj dX12_oddsOf_245 ?_
                            refine lv_if_lt (tgt := 263) hx hb dX12_oddsOf_246 (by decide) (fun c72 => ?_) (fun c72 => ?_)
                            · have h := sh_t c72 h
                              refine lv_iconst (v := (0 : Int32)) hx hb dX12_oddsOf_263 (by decide) ?_
                              refine lv_iadd hx hb dX12_oddsOf_264 ?_
                              refine lv_topi (fun v73 ev73 => ?_)
                              have h := nm_a ev73 h
                              refine as82 hx hb hK hW hS cz82 (vp_in_iff.mpr (by decide)) dX12_oddsOf_265 (fun H locs hW hS => ?_)
                              obtain ⟨M74, eM74⟩ : ∃ y, y = msI M52 8200 0 ((4 : Int32).toNatClampNeg) v73 := ⟨_, rfl⟩
                              have h := nm_a eM74 h
                              rw [← eM74] at hW
                              obtain ⟨v75, ev75⟩ : ∃ y : Int32, y = i51 + (1 : Int32) := ⟨_, rfl⟩
                              have h := nm_a ev75 h
                              refine lv_iinc (v := v75) (lv' := [(4, .int v75), (0, .ref (ad 12 0)), (1, .int x1), (2, .int x2)]) hx hb dX12_oddsOf_266 hl (k := 3) rfl (by rw [ev75]; rfl) (by decide) rfl (fun ls hl => ?_)
                              refine lv_goto (tgt := 203) hx hb dX12_oddsOf_269 (by decide) ?_
                              exact ih50 v75 M74 _ _ _ hW hS (lv_sub hl [1, 2, 3, 0] rfl) h
                            · have h := sh_f c72 h
                              refine lv_aload_n hx hb dX12_oddsOf_249 rfl (lv_at hl 0 rfl) ?_
                              refine gtX12_122 hx hb hts hown hK hW cz12 dX12_oddsOf_250 ?_
                              refine lv_iload hx hb dX12_oddsOf_253 (lv_at hl 3 rfl) ?_
                              obtain ⟨hj, h⟩ := ix_a h
                              refine al86 hx hb hK hW cz86 hj dX12_oddsOf_255 ?_
                              refine lv_if_ge (tgt := 263) hx hb dX12_oddsOf_256 (by decide) (fun c76 => ?_) (fun c76 => ?_)
                              · have h := sh_t c76 h
                                refine lv_iconst (v := (0 : Int32)) hx hb dX12_oddsOf_263 (by decide) ?_
                                refine lv_iadd hx hb dX12_oddsOf_264 ?_
                                refine lv_topi (fun v77 ev77 => ?_)
                                have h := nm_a ev77 h
                                refine as82 hx hb hK hW hS cz82 (vp_in_iff.mpr (by decide)) dX12_oddsOf_265 (fun H locs hW hS => ?_)
                                obtain ⟨M78, eM78⟩ : ∃ y, y = msI M52 8200 0 ((4 : Int32).toNatClampNeg) v77 := ⟨_, rfl⟩
                                have h := nm_a eM78 h
                                rw [← eM78] at hW
                                obtain ⟨v79, ev79⟩ : ∃ y : Int32, y = i51 + (1 : Int32) := ⟨_, rfl⟩
                                have h := nm_a ev79 h
                                refine lv_iinc (v := v79) (lv' := [(4, .int v79), (0, .ref (ad 12 0)), (1, .int x1), (2, .int x2)]) hx hb dX12_oddsOf_266 hl (k := 3) rfl (by rw [ev79]; rfl) (by decide) rfl (fun ls hl => ?_)
                                refine lv_goto (tgt := 203) hx hb dX12_oddsOf_269 (by decide) ?_
                                exact ih50 v79 M78 _ _ _ hW hS (lv_sub hl [1, 2, 3, 0] rfl) h
                              · have h := sh_f c76 h
                                refine lv_iconst (v := (1 : Int32)) hx hb dX12_oddsOf_259 (by decide) ?_
                                refine lv_goto (tgt := 264) hx hb dX12_oddsOf_260 (by decide) ?_
                                refine lv_iadd hx hb dX12_oddsOf_264 ?_
                                refine lv_topi (fun v80 ev80 => ?_)
                                have h := nm_a ev80 h
                                refine as82 hx hb hK hW hS cz82 (vp_in_iff.mpr (by decide)) dX12_oddsOf_265 (fun H locs hW hS => ?_)
                                obtain ⟨M81, eM81⟩ : ∃ y, y = msI M52 8200 0 ((4 : Int32).toNatClampNeg) v80 := ⟨_, rfl⟩
                                have h := nm_a eM81 h
                                rw [← eM81] at hW
                                obtain ⟨v82, ev82⟩ : ∃ y : Int32, y = i51 + (1 : Int32) := ⟨_, rfl⟩
                                have h := nm_a ev82 h
                                refine lv_iinc (v := v82) (lv' := [(4, .int v82), (0, .ref (ad 12 0)), (1, .int x1), (2, .int x2)]) hx hb dX12_oddsOf_266 hl (k := 3) rfl (by rw [ev82]; rfl) (by decide) rfl (fun ls hl => ?_)
                                refine lv_goto (tgt := 203) hx hb dX12_oddsOf_269 (by decide) ?_
                                exact ih50 v82 M81 _ _ _ hW hS (lv_sub hl [1, 2, 3, 0] rfl) h
                    exact L50 FU (0 : Int32) M49 _ _ _ hW hS (lv_sub hl [1, 2, 3, 0] rfl) h
                · have h := sh_f c14 h
                  refine lv_aload_n hx hb dX12_oddsOf_86 rfl (lv_at hl 0 rfl) ?_
                  refine gtX12_38 hx hb hts hown hK hW cz12 dX12_oddsOf_87 ?_
                  refine lv_iload hx hb dX12_oddsOf_90 (lv_at hl 3 rfl) ?_
                  obtain ⟨hj, h⟩ := ix_a h
                  refine al59 hx hb hK hW cz59 hj dX12_oddsOf_92 ?_
                  refine lv_iload_n hx hb dX12_oddsOf_93 rfl (lv_at hl 1 rfl) ?_
                  refine lv_icmp_ne (tgt := 178) hx hb dX12_oddsOf_94 (by decide) (fun c83 => ?_) (fun c83 => ?_)
                  · have h := sh_f c83 h
                    obtain ⟨v84, ev84⟩ : ∃ y : Int32, y = i12 + (1 : Int32) := ⟨_, rfl⟩
                    have h := nm_a ev84 h
                    refine lv_iinc (v := v84) (lv' := [(4, .int v84), (0, .ref (ad 12 0)), (1, .int x1), (2, .int x2)]) hx hb dX12_oddsOf_178 hl (k := 3) rfl (by rw [ev84]; rfl) (by decide) rfl (fun ls hl => ?_)
                    refine lv_goto (tgt := 77) hx hb dX12_oddsOf_181 (by decide) ?_
                    exact ih11 v84 M13 _ _ _ hW hS (lv_sub hl [1, 2, 3, 0] rfl) h
                  · have h := sh_t c83 h
                    refine lv_aload_n hx hb dX12_oddsOf_97 rfl (lv_at hl 0 rfl) ?_
                    refine gtX12_50 hx hb hts hown hK hW cz12 dX12_oddsOf_98 ?_
                    refine lv_iload hx hb dX12_oddsOf_101 (lv_at hl 3 rfl) ?_
                    obtain ⟨hj, h⟩ := ix_a h
                    refine al63 hx hb hK hW cz63 hj dX12_oddsOf_103 ?_
                    refine lv_if_eq (tgt := 110) hx hb dX12_oddsOf_104 (by decide) (fun c85 => ?_) (fun c85 => ?_)
                    · have h := sh_t c85 h
                      refine lv_aload_n hx hb dX12_oddsOf_110 rfl (lv_at hl 0 rfl) ?_
                      refine gtX12_44 hx hb hts hown hK hW cz12 dX12_oddsOf_111 ?_
                      refine lv_iload hx hb dX12_oddsOf_114 (lv_at hl 3 rfl) ?_
                      obtain ⟨hj, h⟩ := ix_a h
                      refine al61 hx hb hK hW cz61 hj dX12_oddsOf_116 ?_
                      refine lv_aload_n hx hb dX12_oddsOf_117 rfl (lv_at hl 0 rfl) ?_
                      refine gtX12_110 hx hb hts hown hK hW cz12 dX12_oddsOf_118 ?_
                      refine lv_iconst (v := (1 : Int32)) hx hb dX12_oddsOf_121 (by decide) ?_
                      refine al82 hx hb hK hW cz82 (vp_in_iff.mpr (by decide)) dX12_oddsOf_122 ?_
                      refine lv_icmp_le (tgt := 139) hx hb dX12_oddsOf_123 (by decide) (fun c86 => ?_) (fun c86 => ?_)
                      · have h := sh_t c86 h
                        refine lv_aload_n hx hb dX12_oddsOf_139 rfl (lv_at hl 0 rfl) ?_
                        refine gtX12_47 hx hb hts hown hK hW cz12 dX12_oddsOf_140 ?_
                        refine lv_iload hx hb dX12_oddsOf_143 (lv_at hl 3 rfl) ?_
                        obtain ⟨hj, h⟩ := ix_a h
                        refine al62 hx hb hK hW cz62 hj dX12_oddsOf_145 ?_
                        refine lv_aload_n hx hb dX12_oddsOf_146 rfl (lv_at hl 0 rfl) ?_
                        refine gtX12_110 hx hb hts hown hK hW cz12 dX12_oddsOf_147 ?_
                        refine lv_iconst (v := (2 : Int32)) hx hb dX12_oddsOf_150 (by decide) ?_
                        refine al82 hx hb hK hW cz82 (vp_in_iff.mpr (by decide)) dX12_oddsOf_151 ?_
                        refine lv_icmp_ge (tgt := 168) hx hb dX12_oddsOf_152 (by decide) (fun c87 => ?_) (fun c87 => ?_)
                        · have h := sh_t c87 h
                          refine lv_aload_n hx hb dX12_oddsOf_168 rfl (lv_at hl 0 rfl) ?_
                          refine gtX12_110 hx hb hts hown hK hW cz12 dX12_oddsOf_169 ?_
                          refine lv_iconst (v := (3 : Int32)) hx hb dX12_oddsOf_172 (by decide) ?_
                          refine lv_dup2_11 hx hb dX12_oddsOf_173 rfl rfl ?_
                          refine al82 hx hb hK hW cz82 (vp_in_iff.mpr (by decide)) dX12_oddsOf_174 ?_
                          refine lv_iconst (v := (1 : Int32)) hx hb dX12_oddsOf_175 (by decide) ?_
                          refine lv_iadd hx hb dX12_oddsOf_176 ?_
                          refine lv_topi (fun v88 ev88 => ?_)
                          have h := nm_a ev88 h
                          refine as82 hx hb hK hW hS cz82 (vp_in_iff.mpr (by decide)) dX12_oddsOf_177 (fun H locs hW hS => ?_)
                          obtain ⟨M89, eM89⟩ : ∃ y, y = msI M13 8200 0 ((3 : Int32).toNatClampNeg) v88 := ⟨_, rfl⟩
                          have h := nm_a eM89 h
                          rw [← eM89] at hW
                          obtain ⟨v90, ev90⟩ : ∃ y : Int32, y = i12 + (1 : Int32) := ⟨_, rfl⟩
                          have h := nm_a ev90 h
                          refine lv_iinc (v := v90) (lv' := [(4, .int v90), (0, .ref (ad 12 0)), (1, .int x1), (2, .int x2)]) hx hb dX12_oddsOf_178 hl (k := 3) rfl (by rw [ev90]; rfl) (by decide) rfl (fun ls hl => ?_)
                          refine lv_goto (tgt := 77) hx hb dX12_oddsOf_181 (by decide) ?_
                          exact ih11 v90 M89 _ _ _ hW hS (lv_sub hl [1, 2, 3, 0] rfl) h
                        · have h := sh_f c87 h
                          refine lv_aload_n hx hb dX12_oddsOf_155 rfl (lv_at hl 0 rfl) ?_
                          refine gtX12_110 hx hb hts hown hK hW cz12 dX12_oddsOf_156 ?_
                          refine lv_iconst (v := (2 : Int32)) hx hb dX12_oddsOf_159 (by decide) ?_
                          refine lv_aload_n hx hb dX12_oddsOf_160 rfl (lv_at hl 0 rfl) ?_
                          refine gtX12_47 hx hb hts hown hK hW cz12 dX12_oddsOf_161 ?_
                          refine lv_iload hx hb dX12_oddsOf_164 (lv_at hl 3 rfl) ?_
                          obtain ⟨hj, h⟩ := ix_a h
                          refine al62 hx hb hK hW cz62 hj dX12_oddsOf_166 ?_
                          refine lv_topi (fun v91 ev91 => ?_)
                          have h := nm_a ev91 h
                          refine as82 hx hb hK hW hS cz82 (vp_in_iff.mpr (by decide)) dX12_oddsOf_167 (fun H locs hW hS => ?_)
                          obtain ⟨M92, eM92⟩ : ∃ y, y = msI M13 8200 0 ((2 : Int32).toNatClampNeg) v91 := ⟨_, rfl⟩
                          have h := nm_a eM92 h
                          rw [← eM92] at hW
                          refine lv_aload_n hx hb dX12_oddsOf_168 rfl (lv_at hl 0 rfl) ?_
                          refine gtX12_110 hx hb hts hown hK hW cz12 dX12_oddsOf_169 ?_
                          refine lv_iconst (v := (3 : Int32)) hx hb dX12_oddsOf_172 (by decide) ?_
                          refine lv_dup2_11 hx hb dX12_oddsOf_173 rfl rfl ?_
                          refine al82 hx hb hK hW cz82 (vp_in_iff.mpr (by decide)) dX12_oddsOf_174 ?_
                          refine lv_iconst (v := (1 : Int32)) hx hb dX12_oddsOf_175 (by decide) ?_
                          refine lv_iadd hx hb dX12_oddsOf_176 ?_
                          refine lv_topi (fun v93 ev93 => ?_)
                          have h := nm_a ev93 h
                          refine as82 hx hb hK hW hS cz82 (vp_in_iff.mpr (by decide)) dX12_oddsOf_177 (fun H locs hW hS => ?_)
                          obtain ⟨M94, eM94⟩ : ∃ y, y = msI M92 8200 0 ((3 : Int32).toNatClampNeg) v93 := ⟨_, rfl⟩
                          have h := nm_a eM94 h
                          rw [← eM94] at hW
                          obtain ⟨v95, ev95⟩ : ∃ y : Int32, y = i12 + (1 : Int32) := ⟨_, rfl⟩
                          have h := nm_a ev95 h
                          refine lv_iinc (v := v95) (lv' := [(4, .int v95), (0, .ref (ad 12 0)), (1, .int x1), (2, .int x2)]) hx hb dX12_oddsOf_178 hl (k := 3) rfl (by rw [ev95]; rfl) (by decide) rfl (fun ls hl => ?_)
                          refine lv_goto (tgt := 77) hx hb dX12_oddsOf_181 (by decide) ?_
                          exact ih11 v95 M94 _ _ _ hW hS (lv_sub hl [1, 2, 3, 0] rfl) h
                      · have h := sh_f c86 h
                        refine lv_aload_n hx hb dX12_oddsOf_126 rfl (lv_at hl 0 rfl) ?_
                        refine gtX12_110 hx hb hts hown hK hW cz12 dX12_oddsOf_127 ?_
                        refine lv_iconst (v := (1 : Int32)) hx hb dX12_oddsOf_130 (by decide) ?_
                        refine lv_aload_n hx hb dX12_oddsOf_131 rfl (lv_at hl 0 rfl) ?_
                        refine gtX12_44 hx hb hts hown hK hW cz12 dX12_oddsOf_132 ?_
                        refine lv_iload hx hb dX12_oddsOf_135 (lv_at hl 3 rfl) ?_
                        obtain ⟨hj, h⟩ := ix_a h
                        refine al61 hx hb hK hW cz61 hj dX12_oddsOf_137 ?_
                        refine lv_topi (fun v96 ev96 => ?_)
                        have h := nm_a ev96 h
                        refine as82 hx hb hK hW hS cz82 (vp_in_iff.mpr (by decide)) dX12_oddsOf_138 (fun H locs hW hS => ?_)
                        obtain ⟨M97, eM97⟩ : ∃ y, y = msI M13 8200 0 ((1 : Int32).toNatClampNeg) v96 := ⟨_, rfl⟩
                        have h := nm_a eM97 h
                        rw [← eM97] at hW
                        refine lv_aload_n hx hb dX12_oddsOf_139 rfl (lv_at hl 0 rfl) ?_
                        refine gtX12_47 hx hb hts hown hK hW cz12 dX12_oddsOf_140 ?_
                        refine lv_iload hx hb dX12_oddsOf_143 (lv_at hl 3 rfl) ?_
                        obtain ⟨hj, h⟩ := ix_a h
                        refine al62 hx hb hK hW cz62 hj dX12_oddsOf_145 ?_
                        refine lv_aload_n hx hb dX12_oddsOf_146 rfl (lv_at hl 0 rfl) ?_
                        refine gtX12_110 hx hb hts hown hK hW cz12 dX12_oddsOf_147 ?_
                        refine lv_iconst (v := (2 : Int32)) hx hb dX12_oddsOf_150 (by decide) ?_
                        refine al82 hx hb hK hW cz82 (vp_in_iff.mpr (by decide)) dX12_oddsOf_151 ?_
                        refine lv_icmp_ge (tgt := 168) hx hb dX12_oddsOf_152 (by decide) (fun c98 => ?_) (fun c98 => ?_)
                        · have h := sh_t c98 h
                          refine lv_aload_n hx hb dX12_oddsOf_168 rfl (lv_at hl 0 rfl) ?_
                          refine gtX12_110 hx hb hts hown hK hW cz12 dX12_oddsOf_169 ?_
                          refine lv_iconst (v := (3 : Int32)) hx hb dX12_oddsOf_172 (by decide) ?_
                          refine lv_dup2_11 hx hb dX12_oddsOf_173 rfl rfl ?_
                          refine al82 hx hb hK hW cz82 (vp_in_iff.mpr (by decide)) dX12_oddsOf_174 ?_
                          refine lv_iconst (v := (1 : Int32)) hx hb dX12_oddsOf_175 (by decide) ?_
                          refine lv_iadd hx hb dX12_oddsOf_176 ?_
                          refine lv_topi (fun v99 ev99 => ?_)
                          have h := nm_a ev99 h
                          refine as82 hx hb hK hW hS cz82 (vp_in_iff.mpr (by decide)) dX12_oddsOf_177 (fun H locs hW hS => ?_)
                          obtain ⟨M100, eM100⟩ : ∃ y, y = msI M97 8200 0 ((3 : Int32).toNatClampNeg) v99 := ⟨_, rfl⟩
                          have h := nm_a eM100 h
                          rw [← eM100] at hW
                          obtain ⟨v101, ev101⟩ : ∃ y : Int32, y = i12 + (1 : Int32) := ⟨_, rfl⟩
                          have h := nm_a ev101 h
                          refine lv_iinc (v := v101) (lv' := [(4, .int v101), (0, .ref (ad 12 0)), (1, .int x1), (2, .int x2)]) hx hb dX12_oddsOf_178 hl (k := 3) rfl (by rw [ev101]; rfl) (by decide) rfl (fun ls hl => ?_)
                          refine lv_goto (tgt := 77) hx hb dX12_oddsOf_181 (by decide) ?_
                          exact ih11 v101 M100 _ _ _ hW hS (lv_sub hl [1, 2, 3, 0] rfl) h
                        · have h := sh_f c98 h
                          refine lv_aload_n hx hb dX12_oddsOf_155 rfl (lv_at hl 0 rfl) ?_
                          refine gtX12_110 hx hb hts hown hK hW cz12 dX12_oddsOf_156 ?_
                          refine lv_iconst (v := (2 : Int32)) hx hb dX12_oddsOf_159 (by decide) ?_
                          refine lv_aload_n hx hb dX12_oddsOf_160 rfl (lv_at hl 0 rfl) ?_
                          refine gtX12_47 hx hb hts hown hK hW cz12 dX12_oddsOf_161 ?_
                          refine lv_iload hx hb dX12_oddsOf_164 (lv_at hl 3 rfl) ?_
                          obtain ⟨hj, h⟩ := ix_a h
                          refine al62 hx hb hK hW cz62 hj dX12_oddsOf_166 ?_
                          refine lv_topi (fun v102 ev102 => ?_)
                          have h := nm_a ev102 h
                          refine as82 hx hb hK hW hS cz82 (vp_in_iff.mpr (by decide)) dX12_oddsOf_167 (fun H locs hW hS => ?_)
                          obtain ⟨M103, eM103⟩ : ∃ y, y = msI M97 8200 0 ((2 : Int32).toNatClampNeg) v102 := ⟨_, rfl⟩
                          have h := nm_a eM103 h
                          rw [← eM103] at hW
                          refine lv_aload_n hx hb dX12_oddsOf_168 rfl (lv_at hl 0 rfl) ?_
                          refine gtX12_110 hx hb hts hown hK hW cz12 dX12_oddsOf_169 ?_
                          refine lv_iconst (v := (3 : Int32)) hx hb dX12_oddsOf_172 (by decide) ?_
                          refine lv_dup2_11 hx hb dX12_oddsOf_173 rfl rfl ?_
                          refine al82 hx hb hK hW cz82 (vp_in_iff.mpr (by decide)) dX12_oddsOf_174 ?_
                          refine lv_iconst (v := (1 : Int32)) hx hb dX12_oddsOf_175 (by decide) ?_
                          refine lv_iadd hx hb dX12_oddsOf_176 ?_
                          refine lv_topi (fun v104 ev104 => ?_)
                          have h := nm_a ev104 h
                          refine as82 hx hb hK hW hS cz82 (vp_in_iff.mpr (by decide)) dX12_oddsOf_177 (fun H locs hW hS => ?_)
                          obtain ⟨M105, eM105⟩ : ∃ y, y = msI M103 8200 0 ((3 : Int32).toNatClampNeg) v104 := ⟨_, rfl⟩
                          have h := nm_a eM105 h
                          rw [← eM105] at hW
                          obtain ⟨v106, ev106⟩ : ∃ y : Int32, y = i12 + (1 : Int32) := ⟨_, rfl⟩
                          have h := nm_a ev106 h
                          refine lv_iinc (v := v106) (lv' := [(4, .int v106), (0, .ref (ad 12 0)), (1, .int x1), (2, .int x2)]) hx hb dX12_oddsOf_178 hl (k := 3) rfl (by rw [ev106]; rfl) (by decide) rfl (fun ls hl => ?_)
                          refine lv_goto (tgt := 77) hx hb dX12_oddsOf_181 (by decide) ?_
                          exact ih11 v106 M105 _ _ _ hW hS (lv_sub hl [1, 2, 3, 0] rfl) h
                    · have h := sh_f c85 h
                      refine lv_goto (tgt := 178) hx hb dX12_oddsOf_107 (by decide) ?_
                      obtain ⟨v107, ev107⟩ : ∃ y : Int32, y = i12 + (1 : Int32) := ⟨_, rfl⟩
                      have h := nm_a ev107 h
                      refine lv_iinc (v := v107) (lv' := [(4, .int v107), (0, .ref (ad 12 0)), (1, .int x1), (2, .int x2)]) hx hb dX12_oddsOf_178 hl (k := 3) rfl (by rw [ev107]; rfl) (by decide) rfl (fun ls hl => ?_)
                      refine lv_goto (tgt := 77) hx hb dX12_oddsOf_181 (by decide) ?_
                      exact ih11 v107 M13 _ _ _ hW hS (lv_sub hl [1, 2, 3, 0] rfl) h
            exact L11 FU (0 : Int32) M10 _ _ _ hW hS (lv_sub hl [2, 3, 4, 0] rfl) h
          · have h := sh_f c7 h
            refine lv_iconst (v := (0 : Int32)) hx hb dX12_oddsOf_56 (by decide) ?_
            refine lv_goto (tgt := 66) hx hb dX12_oddsOf_57 (by decide) ?_
            refine as82 hx hb hK hW hS cz82 (vp_in_iff.mpr (by decide)) dX12_oddsOf_66 (fun H locs hW hS => ?_)
            obtain ⟨M108, eM108⟩ : ∃ y, y = msI M4 8200 0 ((0 : Int32).toNatClampNeg) (0 : Int32) := ⟨_, rfl⟩
            have h := nm_a eM108 h
            rw [← eM108] at hW
            refine lv_aload_n hx hb dX12_oddsOf_67 rfl (lv_at hl 1 rfl) ?_
            refine gtX12_110 hx hb hts hown hK hW cz12 dX12_oddsOf_68 ?_
            refine lv_iconst (v := (2 : Int32)) hx hb dX12_oddsOf_71 (by decide) ?_
            refine lv_iconst (v := (3 : Int32)) hx hb dX12_oddsOf_72 (by decide) ?_
            refine as82 hx hb hK hW hS cz82 (vp_in_iff.mpr (by decide)) dX12_oddsOf_73 (fun H locs hW hS => ?_)
            obtain ⟨M109, eM109⟩ : ∃ y, y = msI M108 8200 0 ((2 : Int32).toNatClampNeg) (3 : Int32) := ⟨_, rfl⟩
            have h := nm_a eM109 h
            rw [← eM109] at hW
            refine lv_iconst (v := (0 : Int32)) hx hb dX12_oddsOf_74 (by decide) ?_
            refine lv_istore (lv' := [(4, .int (0 : Int32)), (3, .int b6), (0, .ref (ad 12 0)), (1, .int x1), (2, .int x2)]) hx hb dX12_oddsOf_75 hl (by decide) rfl (fun ls hl => ?_)
            have L110 : ∀ (n110 : Nat) (i111 : Int32) (M112 : Mem) (H : Heap) (locs : List Loc) (ls : Array Slot), Wd D cy A cnM ad M112 H → va_S A s.heap H locs → lv_has ls 5 [(0, .ref (ad 12 0)), (1, .int x1), (2, .int x2), (4, .int i111)] → fX12_oddsOf_l77_110 x1 x2 n110 i111 M112 = some (r, M') → W p l e (rm 3 71) s m args below meth c H locs 0 0 (MQ below (QI D cy A cnM ad r M') args s 0 0 A) (F0 m 77 ls []) := by
              intro n110
              induction n110 with
              | zero => intro i111 M112 H locs ls hW hS hl h; cases h
              | succ n110 ih110 =>
                intro i111 M112 H locs ls hW hS hl h
                unfold fX12_oddsOf_l77_110 fX12_oddsOf_b77_110 at h
                refine lv_iload hx hb dX12_oddsOf_77 (lv_at hl 3 rfl) ?_
                refine lv_aload_n hx hb dX12_oddsOf_79 rfl (lv_at hl 0 rfl) ?_
                refine gtX12_154 hx hb hts hown hK hW cz12 dX12_oddsOf_80 ?_
                refine lv_icmp_ge (tgt := 184) hx hb dX12_oddsOf_83 (by decide) (fun c113 => ?_) (fun c113 => ?_)
                · have h := sh_t c113 h
                  refine lv_aload_n hx hb dX12_oddsOf_184 rfl (lv_at hl 0 rfl) ?_
                  refine gtX12_110 hx hb hts hown hK hW cz12 dX12_oddsOf_185 ?_
                  refine lv_iconst (v := (3 : Int32)) hx hb dX12_oddsOf_188 (by decide) ?_
                  refine al82 hx hb hK hW cz82 (vp_in_iff.mpr (by decide)) dX12_oddsOf_189 ?_
                  refine lv_if_ne (tgt := 200) hx hb dX12_oddsOf_190 (by decide) (fun c114 => ?_) (fun c114 => ?_)
                  · have h := sh_f c114 h
                    refine lv_iconst (v := (0 : Int32)) hx hb dX12_oddsOf_200 (by decide) ?_
                    refine lv_istore (lv' := [(4, .int (0 : Int32)), (0, .ref (ad 12 0)), (1, .int x1), (2, .int x2)]) hx hb dX12_oddsOf_201 hl (by decide) rfl (fun ls hl => ?_)
                    have L115 : ∀ (n115 : Nat) (i116 : Int32) (M117 : Mem) (H : Heap) (locs : List Loc) (ls : Array Slot), Wd D cy A cnM ad M117 H → va_S A s.heap H locs → lv_has ls 5 [(0, .ref (ad 12 0)), (1, .int x1), (2, .int x2), (4, .int i116)] → fX12_oddsOf_l203_115 x1 x2 n115 i116 M117 = some (r, M') → W p l e (rm 3 71) s m args below meth c H locs 0 0 (MQ below (QI D cy A cnM ad r M') args s 0 0 A) (F0 m 203 ls []) := by
                      intro n115
                      induction n115 with
                      | zero => intro i116 M117 H locs ls hW hS hl h; cases h
                      | succ n115 ih115 =>
                        intro i116 M117 H locs ls hW hS hl h
                        unfold fX12_oddsOf_l203_115 fX12_oddsOf_b203_115 at h
                        refine lv_iload hx hb dX12_oddsOf_203 (lv_at hl 3 rfl) ?_
                        refine lv_aload_n hx hb dX12_oddsOf_205 rfl (lv_at hl 0 rfl) ?_
                        refine gtX12_319 hx hb hts hown hK hW cz12 dX12_oddsOf_206 ?_
                        refine lv_icmp_ge (tgt := 272) hx hb dX12_oddsOf_209 (by decide) (fun c118 => ?_) (fun c118 => ?_)
                        · have h := sh_t c118 h
                          refine lv_aload_n hx hb dX12_oddsOf_272 rfl (lv_at hl 0 rfl) ?_
                          refine gtX12_110 hx hb hts hown hK hW cz12 dX12_oddsOf_273 ?_
                          refine lv_iconst (v := (5 : Int32)) hx hb dX12_oddsOf_276 (by decide) ?_
                          refine lv_aload_n hx hb dX12_oddsOf_277 rfl (lv_at hl 0 rfl) ?_
                          refine gtX12_16 hx hb hts hown hK hW cz12 dX12_oddsOf_278 ?_
                          refine lv_iload_n hx hb dX12_oddsOf_281 rfl (lv_at hl 1 rfl) ?_
                          obtain ⟨hj, h⟩ := ix_a h
                          refine al52 hx hb hK hW cz52 hj dX12_oddsOf_282 ?_
                          refine lv_topi (fun v119 ev119 => ?_)
                          have h := nm_a ev119 h
                          refine as82 hx hb hK hW hS cz82 (vp_in_iff.mpr (by decide)) dX12_oddsOf_283 (fun H locs hW hS => ?_)
                          obtain ⟨M120, eM120⟩ : ∃ y, y = msI M117 8200 0 ((5 : Int32).toNatClampNeg) v119 := ⟨_, rfl⟩
                          have h := nm_a eM120 h
                          rw [← eM120] at hW
                          refine lv_aload_n hx hb dX12_oddsOf_284 rfl (lv_at hl 0 rfl) ?_
                          refine gtX12_110 hx hb hts hown hK hW cz12 dX12_oddsOf_285 ?_
                          refine lv_bipush (v := (6 : Int32)) hx hb dX12_oddsOf_288 (by decide) ?_
                          refine lv_aload_n hx hb dX12_oddsOf_290 rfl (lv_at hl 0 rfl) ?_
                          refine gtX12_34 hx hb hts hown hK hW cz12 dX12_oddsOf_291 ?_
                          refine lv_iload_n hx hb dX12_oddsOf_294 rfl (lv_at hl 1 rfl) ?_
                          obtain ⟨hj, h⟩ := ix_a h
                          refine al58 hx hb hK hW cz58 hj dX12_oddsOf_295 ?_
                          refine lv_if_eq (tgt := 303) hx hb dX12_oddsOf_296 (by decide) (fun c121 => ?_) (fun c121 => ?_)
                          · have h := sh_t c121 h
                            refine lv_iconst (v := (0 : Int32)) hx hb dX12_oddsOf_303 (by decide) ?_
                            refine as82 hx hb hK hW hS cz82 (vp_in_iff.mpr (by decide)) dX12_oddsOf_304 (fun H locs hW hS => ?_)
                            obtain ⟨M122, eM122⟩ : ∃ y, y = msI M120 8200 0 ((6 : Int32).toNatClampNeg) (0 : Int32) := ⟨_, rfl⟩
                            have h := nm_a eM122 h
                            rw [← eM122] at hW
                            refine lv_aload_n hx hb dX12_oddsOf_305 rfl (lv_at hl 0 rfl) ?_
                            refine lv_iload_n hx hb dX12_oddsOf_306 rfl (lv_at hl 2 rfl) ?_
                            obtain ⟨b123, M124, hcb123, h⟩ := bE_a h
                            refine tb_cVI hZk hx hb hml hown hts hK hZ hW hS [.int x2] (mX12_gives (l := l) hZk x2 M122 b123 M124 hcb123) pmX12_gives tw1621 (Wd.recv hK hW (t := 12) (by decide) cz12 (C := RX12) (T := TX12) (N := 58) rfl) ⟨Nat.le_of_ble_eq_true rfl, Nat.le_of_ble_eq_true rfl⟩ rfl hl.1 (Nat.le_of_ble_eq_true rfl) ⟨Nat.le_refl _, Nat.le_refl _⟩ rfl dX12_oddsOf_307 (fun H locs hW hS => ?_)
                            refine lv_istore (lv' := [(4, .int b123), (0, .ref (ad 12 0)), (1, .int x1), (2, .int x2)]) hx hb dX12_oddsOf_310 hl (by decide) rfl (fun ls hl => ?_)
                            refine lv_iload hx hb dX12_oddsOf_312 (lv_at hl 0 rfl) ?_
                            refine lv_if_ge (tgt := 321) hx hb dX12_oddsOf_314 (by decide) (fun c125 => ?_) (fun c125 => ?_)
                            · have h := sh_t c125 h
                              refine lv_iload hx hb dX12_oddsOf_321 (lv_at hl 0 rfl) ?_
                              refine lv_sipush (v := (1000 : Int32)) hx hb dX12_oddsOf_323 (by decide) ?_
                              refine lv_icmp_le (tgt := 335) hx hb dX12_oddsOf_326 (by decide) (fun c126 => ?_) (fun c126 => ?_)
                              · have h := sh_t c126 h
                                refine lv_iload hx hb dX12_oddsOf_335 (lv_at hl 0 rfl) ?_
                                exact tb_iretE h hx hb hr hS hW hlk dX12_oddsOf_337
                              · have h := sh_f c126 h
                                refine lv_sipush (v := (1000 : Int32)) hx hb dX12_oddsOf_329 (by decide) ?_
                                refine lv_goto (tgt := 337) hx hb dX12_oddsOf_332 (by decide) ?_
                                exact tb_iretE h hx hb hr hS hW hlk dX12_oddsOf_337
                            · have h := sh_f c125 h
                              refine lv_iconst (v := (0 : Int32)) hx hb dX12_oddsOf_317 (by decide) ?_
                              refine lv_goto (tgt := 337) hx hb dX12_oddsOf_318 (by decide) ?_
                              exact tb_iretE h hx hb hr hS hW hlk dX12_oddsOf_337
                          · have h := sh_f c121 h
                            refine lv_iconst (v := (1 : Int32)) hx hb dX12_oddsOf_299 (by decide) ?_
                            refine lv_goto (tgt := 304) hx hb dX12_oddsOf_300 (by decide) ?_
                            refine as82 hx hb hK hW hS cz82 (vp_in_iff.mpr (by decide)) dX12_oddsOf_304 (fun H locs hW hS => ?_)
                            obtain ⟨M127, eM127⟩ : ∃ y, y = msI M120 8200 0 ((6 : Int32).toNatClampNeg) (1 : Int32) := ⟨_, rfl⟩
                            have h := nm_a eM127 h
                            rw [← eM127] at hW
                            refine lv_aload_n hx hb dX12_oddsOf_305 rfl (lv_at hl 0 rfl) ?_
                            refine lv_iload_n hx hb dX12_oddsOf_306 rfl (lv_at hl 2 rfl) ?_
                            obtain ⟨b128, M129, hcb128, h⟩ := bE_a h
                            refine tb_cVI hZk hx hb hml hown hts hK hZ hW hS [.int x2] (mX12_gives (l := l) hZk x2 M127 b128 M129 hcb128) pmX12_gives tw1621 (Wd.recv hK hW (t := 12) (by decide) cz12 (C := RX12) (T := TX12) (N := 58) rfl) ⟨Nat.le_of_ble_eq_true rfl, Nat.le_of_ble_eq_true rfl⟩ rfl hl.1 (Nat.le_of_ble_eq_true rfl) ⟨Nat.le_refl _, Nat.le_refl _⟩ rfl dX12_oddsOf_307 (fun H locs hW hS => ?_)
                            refine lv_istore (lv' := [(4, .int b128), (0, .ref (ad 12 0)), (1, .int x1), (2, .int x2)]) hx hb dX12_oddsOf_310 hl (by decide) rfl (fun ls hl => ?_)
                            refine lv_iload hx hb dX12_oddsOf_312 (lv_at hl 0 rfl) ?_
                            refine lv_if_ge (tgt := 321) hx hb dX12_oddsOf_314 (by decide) (fun c130 => ?_) (fun c130 => ?_)
                            · have h := sh_t c130 h
                              refine lv_iload hx hb dX12_oddsOf_321 (lv_at hl 0 rfl) ?_
                              refine lv_sipush (v := (1000 : Int32)) hx hb dX12_oddsOf_323 (by decide) ?_
                              refine lv_icmp_le (tgt := 335) hx hb dX12_oddsOf_326 (by decide) (fun c131 => ?_) (fun c131 => ?_)
                              · have h := sh_t c131 h
                                refine lv_iload hx hb dX12_oddsOf_335 (lv_at hl 0 rfl) ?_
                                exact tb_iretE h hx hb hr hS hW hlk dX12_oddsOf_337
                              · have h := sh_f c131 h
                                refine lv_sipush (v := (1000 : Int32)) hx hb dX12_oddsOf_329 (by decide) ?_
                                refine lv_goto (tgt := 337) hx hb dX12_oddsOf_332 (by decide) ?_
                                exact tb_iretE h hx hb hr hS hW hlk dX12_oddsOf_337
                            · have h := sh_f c130 h
                              refine lv_iconst (v := (0 : Int32)) hx hb dX12_oddsOf_317 (by decide) ?_
                              refine lv_goto (tgt := 337) hx hb dX12_oddsOf_318 (by decide) ?_
                              exact tb_iretE h hx hb hr hS hW hlk dX12_oddsOf_337
                        · have h := sh_f c118 h
                          refine lv_aload_n hx hb dX12_oddsOf_212 rfl (lv_at hl 0 rfl) ?_
                          refine gtX12_110 hx hb hts hown hK hW cz12 dX12_oddsOf_213 ?_
                          refine lv_iconst (v := (4 : Int32)) hx hb dX12_oddsOf_216 (by decide) ?_
                          refine lv_dup2_11 hx hb dX12_oddsOf_217 rfl rfl ?_
                          refine al82 hx hb hK hW cz82 (vp_in_iff.mpr (by decide)) dX12_oddsOf_218 ?_
                          refine lv_aload_n hx hb dX12_oddsOf_219 rfl (lv_at hl 0 rfl) ?_
                          refine lv_iload_n hx hb dX12_oddsOf_220 rfl (lv_at hl 1 rfl) ?_
                          refine lv_aload_n hx hb dX12_oddsOf_221 rfl (lv_at hl 0 rfl) ?_
                          refine gtX12_116 hx hb hts hown hK hW cz12 dX12_oddsOf_222 ?_
                          refine lv_iload hx hb dX12_oddsOf_225 (lv_at hl 3 rfl) ?_
                          obtain ⟨hj, h⟩ := ix_a h
                          refine al84 hx hb hK hW cz84 hj dX12_oddsOf_227 ?_
                          obtain ⟨b132, hcb132, h⟩ := bd_a h
                          refine tb_cVZ hZk hx hb hml hown hts hK hZ hW hS [.int x1, .int (mgI M117 8400 0 i116.toNatClampNeg)] (mX12_isOn (l := l) hZk x1 (mgI M117 8400 0 i116.toNatClampNeg) M117 b132 hcb132) pmX12_isOn tw1451 (Wd.recv hK hW (t := 12) (by decide) cz12 (C := RX12) (T := TX12) (N := 58) rfl) ⟨Nat.le_of_ble_eq_true rfl, Nat.le_of_ble_eq_true rfl⟩ rfl hl.1 (Nat.le_of_ble_eq_true rfl) ⟨Nat.le_refl _, Nat.le_refl _⟩ rfl dX12_oddsOf_228 (fun H locs hW hS hzz => ?_)
                          have hzb132 := hzz
                          refine lv_if_eq (tgt := 263) hx hb dX12_oddsOf_231 (by decide) (fun c133 => ?_) (fun c133 => ?_)
                          · have h := sh_t c133 h
                            refine lv_iconst (v := (0 : Int32)) hx hb dX12_oddsOf_263 (by decide) ?_
                            refine lv_iadd hx hb dX12_oddsOf_264 ?_
                            refine lv_topi (fun v134 ev134 => ?_)
                            have h := nm_a ev134 h
                            refine as82 hx hb hK hW hS cz82 (vp_in_iff.mpr (by decide)) dX12_oddsOf_265 (fun H locs hW hS => ?_)
                            obtain ⟨M135, eM135⟩ : ∃ y, y = msI M117 8200 0 ((4 : Int32).toNatClampNeg) v134 := ⟨_, rfl⟩
                            have h := nm_a eM135 h
                            rw [← eM135] at hW
                            obtain ⟨v136, ev136⟩ : ∃ y : Int32, y = i116 + (1 : Int32) := ⟨_, rfl⟩
                            have h := nm_a ev136 h
                            refine lv_iinc (v := v136) (lv' := [(4, .int v136), (0, .ref (ad 12 0)), (1, .int x1), (2, .int x2)]) hx hb dX12_oddsOf_266 hl (k := 3) rfl (by rw [ev136]; rfl) (by decide) rfl (fun ls hl => ?_)
                            refine lv_goto (tgt := 203) hx hb dX12_oddsOf_269 (by decide) ?_
                            exact ih115 v136 M135 _ _ _ hW hS (lv_sub hl [1, 2, 3, 0] rfl) h
                          · have h := sh_f c133 h
                            refine lv_aload_n hx hb dX12_oddsOf_234 rfl (lv_at hl 0 rfl) ?_
                            refine gtX12_22 hx hb hts hown hK hW cz12 dX12_oddsOf_235 ?_
                            refine lv_aload_n hx hb dX12_oddsOf_238 rfl (lv_at hl 0 rfl) ?_
                            refine gtX12_116 hx hb hts hown hK hW cz12 dX12_oddsOf_239 ?_
                            refine lv_iload hx hb dX12_oddsOf_242 (lv_at hl 3 rfl) ?_
                            obtain ⟨hj, h⟩ := ix_a h
                            refine al84 hx hb hK hW cz84 hj dX12_oddsOf_244 ?_
                            obtain ⟨hj, h⟩ := ix_a h
                            refine al54 hx hb hK hW cz54 hj dX12_oddsOf_245 ?_
                            refine lv_if_lt (tgt := 263) hx hb dX12_oddsOf_246 (by decide) (fun c137 => ?_) (fun c137 => ?_)
                            · have h := sh_t c137 h
                              refine lv_iconst (v := (0 : Int32)) hx hb dX12_oddsOf_263 (by decide) ?_
                              refine lv_iadd hx hb dX12_oddsOf_264 ?_
                              refine lv_topi (fun v138 ev138 => ?_)
                              have h := nm_a ev138 h
                              refine as82 hx hb hK hW hS cz82 (vp_in_iff.mpr (by decide)) dX12_oddsOf_265 (fun H locs hW hS => ?_)
                              obtain ⟨M139, eM139⟩ : ∃ y, y = msI M117 8200 0 ((4 : Int32).toNatClampNeg) v138 := ⟨_, rfl⟩
                              have h := nm_a eM139 h
                              rw [← eM139] at hW
                              obtain ⟨v140, ev140⟩ : ∃ y : Int32, y = i116 + (1 : Int32) := ⟨_, rfl⟩
                              have h := nm_a ev140 h
                              refine lv_iinc (v := v140) (lv' := [(4, .int v140), (0, .ref (ad 12 0)), (1, .int x1), (2, .int x2)]) hx hb dX12_oddsOf_266 hl (k := 3) rfl (by rw [ev140]; rfl) (by decide) rfl (fun ls hl => ?_)
                              refine lv_goto (tgt := 203) hx hb dX12_oddsOf_269 (by decide) ?_
                              exact ih115 v140 M139 _ _ _ hW hS (lv_sub hl [1, 2, 3, 0] rfl) h
                            · have h := sh_f c137 h
                              refine lv_aload_n hx hb dX12_oddsOf_249 rfl (lv_at hl 0 rfl) ?_
                              refine gtX12_122 hx hb hts hown hK hW cz12 dX12_oddsOf_250 ?_
                              refine lv_iload hx hb dX12_oddsOf_253 (lv_at hl 3 rfl) ?_
                              obtain ⟨hj, h⟩ := ix_a h
                              refine al86 hx hb hK hW cz86 hj dX12_oddsOf_255 ?_
                              refine lv_if_ge (tgt := 263) hx hb dX12_oddsOf_256 (by decide) (fun c141 => ?_) (fun c141 => ?_)
                              · have h := sh_t c141 h
                                refine lv_iconst (v := (0 : Int32)) hx hb dX12_oddsOf_263 (by decide) ?_
                                refine lv_iadd hx hb dX12_oddsOf_264 ?_
                                refine lv_topi (fun v142 ev142 => ?_)
                                have h := nm_a ev142 h
                                refine as82 hx hb hK hW hS cz82 (vp_in_iff.mpr (by decide)) dX12_oddsOf_265 (fun H locs hW hS => ?_)
                                obtain ⟨M143, eM143⟩ : ∃ y, y = msI M117 8200 0 ((4 : Int32).toNatClampNeg) v142 := ⟨_, rfl⟩
                                have h := nm_a eM143 h
                                rw [← eM143] at hW
                                obtain ⟨v144, ev144⟩ : ∃ y : Int32, y = i116 + (1 : Int32) := ⟨_, rfl⟩
                                have h := nm_a ev144 h
                                refine lv_iinc (v := v144) (lv' := [(4, .int v144), (0, .ref (ad 12 0)), (1, .int x1), (2, .int x2)]) hx hb dX12_oddsOf_266 hl (k := 3) rfl (by rw [ev144]; rfl) (by decide) rfl (fun ls hl => ?_)
                                refine lv_goto (tgt := 203) hx hb dX12_oddsOf_269 (by decide) ?_
                                exact ih115 v144 M143 _ _ _ hW hS (lv_sub hl [1, 2, 3, 0] rfl) h
                              · have h := sh_f c141 h
                                refine lv_iconst (v := (1 : Int32)) hx hb dX12_oddsOf_259 (by decide) ?_
                                refine lv_goto (tgt := 264) hx hb dX12_oddsOf_260 (by decide) ?_
                                refine lv_iadd hx hb dX12_oddsOf_264 ?_
                                refine lv_topi (fun v145 ev145 => ?_)
                                have h := nm_a ev145 h
                                refine as82 hx hb hK hW hS cz82 (vp_in_iff.mpr (by decide)) dX12_oddsOf_265 (fun H locs hW hS => ?_)
                                obtain ⟨M146, eM146⟩ : ∃ y, y = msI M117 8200 0 ((4 : Int32).toNatClampNeg) v145 := ⟨_, rfl⟩
                                have h := nm_a eM146 h
                                rw [← eM146] at hW
                                obtain ⟨v147, ev147⟩ : ∃ y : Int32, y = i116 + (1 : Int32) := ⟨_, rfl⟩
                                have h := nm_a ev147 h
                                refine lv_iinc (v := v147) (lv' := [(4, .int v147), (0, .ref (ad 12 0)), (1, .int x1), (2, .int x2)]) hx hb dX12_oddsOf_266 hl (k := 3) rfl (by rw [ev147]; rfl) (by decide) rfl (fun ls hl => ?_)
                                refine lv_goto (tgt := 203) hx hb dX12_oddsOf_269 (by decide) ?_
                                exact ih115 v147 M146 _ _ _ hW hS (lv_sub hl [1, 2, 3, 0] rfl) h
                    exact L115 FU (0 : Int32) M112 _ _ _ hW hS (lv_sub hl [1, 2, 3, 0] rfl) h
                  · have h := sh_t c114 h
                    refine lv_aload_n hx hb dX12_oddsOf_193 rfl (lv_at hl 0 rfl) ?_
                    refine gtX12_110 hx hb hts hown hK hW cz12 dX12_oddsOf_194 ?_
                    refine lv_iconst (v := (2 : Int32)) hx hb dX12_oddsOf_197 (by decide) ?_
                    refine lv_iconst (v := (0 : Int32)) hx hb dX12_oddsOf_198 (by decide) ?_
                    refine as82 hx hb hK hW hS cz82 (vp_in_iff.mpr (by decide)) dX12_oddsOf_199 (fun H locs hW hS => ?_)
                    obtain ⟨M148, eM148⟩ : ∃ y, y = msI M112 8200 0 ((2 : Int32).toNatClampNeg) (0 : Int32) := ⟨_, rfl⟩
                    have h := nm_a eM148 h
                    rw [← eM148] at hW
                    refine lv_iconst (v := (0 : Int32)) hx hb dX12_oddsOf_200 (by decide) ?_
                    refine lv_istore (lv' := [(4, .int (0 : Int32)), (0, .ref (ad 12 0)), (1, .int x1), (2, .int x2)]) hx hb dX12_oddsOf_201 hl (by decide) rfl (fun ls hl => ?_)
                    have L149 : ∀ (n149 : Nat) (i150 : Int32) (M151 : Mem) (H : Heap) (locs : List Loc) (ls : Array Slot), Wd D cy A cnM ad M151 H → va_S A s.heap H locs → lv_has ls 5 [(0, .ref (ad 12 0)), (1, .int x1), (2, .int x2), (4, .int i150)] → fX12_oddsOf_l203_149 x1 x2 n149 i150 M151 = some (r, M') → W p l e (rm 3 71) s m args below meth c H locs 0 0 (MQ below (QI D cy A cnM ad r M') args s 0 0 A) (F0 m 203 ls []) := by
                      intro n149
                      induction n149 with
                      | zero => intro i150 M151 H locs ls hW hS hl h; cases h
                      | succ n149 ih149 =>
                        intro i150 M151 H locs ls hW hS hl h
                        unfold fX12_oddsOf_l203_149 fX12_oddsOf_b203_149 at h
                        refine lv_iload hx hb dX12_oddsOf_203 (lv_at hl 3 rfl) ?_
                        refine lv_aload_n hx hb dX12_oddsOf_205 rfl (lv_at hl 0 rfl) ?_
                        refine gtX12_319 hx hb hts hown hK hW cz12 dX12_oddsOf_206 ?_
                        refine lv_icmp_ge (tgt := 272) hx hb dX12_oddsOf_209 (by decide) (fun c152 => ?_) (fun c152 => ?_)
                        · have h := sh_t c152 h
                          refine lv_aload_n hx hb dX12_oddsOf_272 rfl (lv_at hl 0 rfl) ?_
                          refine gtX12_110 hx hb hts hown hK hW cz12 dX12_oddsOf_273 ?_
                          refine lv_iconst (v := (5 : Int32)) hx hb dX12_oddsOf_276 (by decide) ?_
                          refine lv_aload_n hx hb dX12_oddsOf_277 rfl (lv_at hl 0 rfl) ?_
                          refine gtX12_16 hx hb hts hown hK hW cz12 dX12_oddsOf_278 ?_
                          refine lv_iload_n hx hb dX12_oddsOf_281 rfl (lv_at hl 1 rfl) ?_
                          obtain ⟨hj, h⟩ := ix_a h
                          refine al52 hx hb hK hW cz52 hj dX12_oddsOf_282 ?_
                          refine lv_topi (fun v153 ev153 => ?_)
                          have h := nm_a ev153 h
                          refine as82 hx hb hK hW hS cz82 (vp_in_iff.mpr (by decide)) dX12_oddsOf_283 (fun H locs hW hS => ?_)
                          obtain ⟨M154, eM154⟩ : ∃ y, y = msI M151 8200 0 ((5 : Int32).toNatClampNeg) v153 := ⟨_, rfl⟩
                          have h := nm_a eM154 h
                          rw [← eM154] at hW
                          refine lv_aload_n hx hb dX12_oddsOf_284 rfl (lv_at hl 0 rfl) ?_
                          refine gtX12_110 hx hb hts hown hK hW cz12 dX12_oddsOf_285 ?_
                          refine lv_bipush (v := (6 : Int32)) hx hb dX12_oddsOf_288 (by decide) ?_
                          refine lv_aload_n hx hb dX12_oddsOf_290 rfl (lv_at hl 0 rfl) ?_
                          refine gtX12_34 hx hb hts hown hK hW cz12 dX12_oddsOf_291 ?_
                          refine lv_iload_n hx hb dX12_oddsOf_294 rfl (lv_at hl 1 rfl) ?_
                          obtain ⟨hj, h⟩ := ix_a h
                          refine al58 hx hb hK hW cz58 hj dX12_oddsOf_295 ?_
                          refine lv_if_eq (tgt := 303) hx hb dX12_oddsOf_296 (by decide) (fun c155 => ?_) (fun c155 => ?_)
                          · have h := sh_t c155 h
                            refine lv_iconst (v := (0 : Int32)) hx hb dX12_oddsOf_303 (by decide) ?_
                            refine as82 hx hb hK hW hS cz82 (vp_in_iff.mpr (by decide)) dX12_oddsOf_304 (fun H locs hW hS => ?_)
                            obtain ⟨M156, eM156⟩ : ∃ y, y = msI M154 8200 0 ((6 : Int32).toNatClampNeg) (0 : Int32) := ⟨_, rfl⟩
                            have h := nm_a eM156 h
                            rw [← eM156] at hW
                            refine lv_aload_n hx hb dX12_oddsOf_305 rfl (lv_at hl 0 rfl) ?_
                            refine lv_iload_n hx hb dX12_oddsOf_306 rfl (lv_at hl 2 rfl) ?_
                            obtain ⟨b157, M158, hcb157, h⟩ := bE_a h
                            refine tb_cVI hZk hx hb hml hown hts hK hZ hW hS [.int x2] (mX12_gives (l := l) hZk x2 M156 b157 M158 hcb157) pmX12_gives tw1621 (Wd.recv hK hW (t := 12) (by decide) cz12 (C := RX12) (T := TX12) (N := 58) rfl) ⟨Nat.le_of_ble_eq_true rfl, Nat.le_of_ble_eq_true rfl⟩ rfl hl.1 (Nat.le_of_ble_eq_true rfl) ⟨Nat.le_refl _, Nat.le_refl _⟩ rfl dX12_oddsOf_307 (fun H locs hW hS => ?_)
                            refine lv_istore (lv' := [(4, .int b157), (0, .ref (ad 12 0)), (1, .int x1), (2, .int x2)]) hx hb dX12_oddsOf_310 hl (by decide) rfl (fun ls hl => ?_)
                            refine lv_iload hx hb dX12_oddsOf_312 (lv_at hl 0 rfl) ?_
                            refine lv_if_ge (tgt := 321) hx hb dX12_oddsOf_314 (by decide) (fun c159 => ?_) (fun c159 => ?_)
                            · have h := sh_t c159 h
                              refine lv_iload hx hb dX12_oddsOf_321 (lv_at hl 0 rfl) ?_
                              refine lv_sipush (v := (1000 : Int32)) hx hb dX12_oddsOf_323 (by decide) ?_
                              refine lv_icmp_le (tgt := 335) hx hb dX12_oddsOf_326 (by decide) (fun c160 => ?_) (fun c160 => ?_)
                              · have h := sh_t c160 h
                                refine lv_iload hx hb dX12_oddsOf_335 (lv_at hl 0 rfl) ?_
                                exact tb_iretE h hx hb hr hS hW hlk dX12_oddsOf_337
                              · have h := sh_f c160 h
                                refine lv_sipush (v := (1000 : Int32)) hx hb dX12_oddsOf_329 (by decide) ?_
                                refine lv_goto (tgt := 337) hx hb dX12_oddsOf_332 (by decide) ?_
                                exact tb_iretE h hx hb hr hS hW hlk dX12_oddsOf_337
                            · have h := sh_f c159 h
                              refine lv_iconst (v := (0 : Int32)) hx hb dX12_oddsOf_317 (by decide) ?_
                              refine lv_goto (tgt := 337) hx hb dX12_oddsOf_318 (by decide) ?_
                              exact tb_iretE h hx hb hr hS hW hlk dX12_oddsOf_337
                          · have h := sh_f c155 h
                            refine lv_iconst (v := (1 : Int32)) hx hb dX12_oddsOf_299 (by decide) ?_
                            refine lv_goto (tgt := 304) hx hb dX12_oddsOf_300 (by decide) ?_
                            refine as82 hx hb hK hW hS cz82 (vp_in_iff.mpr (by decide)) dX12_oddsOf_304 (fun H locs hW hS => ?_)
                            obtain ⟨M161, eM161⟩ : ∃ y, y = msI M154 8200 0 ((6 : Int32).toNatClampNeg) (1 : Int32) := ⟨_, rfl⟩
                            have h := nm_a eM161 h
                            rw [← eM161] at hW
                            refine lv_aload_n hx hb dX12_oddsOf_305 rfl (lv_at hl 0 rfl) ?_
                            refine lv_iload_n hx hb dX12_oddsOf_306 rfl (lv_at hl 2 rfl) ?_
                            obtain ⟨b162, M163, hcb162, h⟩ := bE_a h
                            refine tb_cVI hZk hx hb hml hown hts hK hZ hW hS [.int x2] (mX12_gives (l := l) hZk x2 M161 b162 M163 hcb162) pmX12_gives tw1621 (Wd.recv hK hW (t := 12) (by decide) cz12 (C := RX12) (T := TX12) (N := 58) rfl) ⟨Nat.le_of_ble_eq_true rfl, Nat.le_of_ble_eq_true rfl⟩ rfl hl.1 (Nat.le_of_ble_eq_true rfl) ⟨Nat.le_refl _, Nat.le_refl _⟩ rfl dX12_oddsOf_307 (fun H locs hW hS => ?_)
                            refine lv_istore (lv' := [(4, .int b162), (0, .ref (ad 12 0)), (1, .int x1), (2, .int x2)]) hx hb dX12_oddsOf_310 hl (by decide) rfl (fun ls hl => ?_)
                            refine lv_iload hx hb dX12_oddsOf_312 (lv_at hl 0 rfl) ?_
                            refine lv_if_ge (tgt := 321) hx hb dX12_oddsOf_314 (by decide) (fun c164 => ?_) (fun c164 => ?_)
                            · have h := sh_t c164 h
                              refine lv_iload hx hb dX12_oddsOf_321 (lv_at hl 0 rfl) ?_
                              refine lv_sipush (v := (1000 : Int32)) hx hb dX12_oddsOf_323 (by decide) ?_
                              refine lv_icmp_le (tgt := 335) hx hb dX12_oddsOf_326 (by decide) (fun c165 => ?_) (fun c165 => ?_)
                              · have h := sh_t c165 h
                                refine lv_iload hx hb dX12_oddsOf_335 (lv_at hl 0 rfl) ?_
                                exact tb_iretE h hx hb hr hS hW hlk dX12_oddsOf_337
                              · have h := sh_f c165 h
                                refine lv_sipush (v := (1000 : Int32)) hx hb dX12_oddsOf_329 (by decide) ?_
                                refine lv_goto (tgt := 337) hx hb dX12_oddsOf_332 (by decide) ?_
                                exact tb_iretE h hx hb hr hS hW hlk dX12_oddsOf_337
                            · have h := sh_f c164 h
                              refine lv_iconst (v := (0 : Int32)) hx hb dX12_oddsOf_317 (by decide) ?_
                              refine lv_goto (tgt := 337) hx hb dX12_oddsOf_318 (by decide) ?_
                              exact tb_iretE h hx hb hr hS hW hlk dX12_oddsOf_337
                        · have h := sh_f c152 h
                          refine lv_aload_n hx hb dX12_oddsOf_212 rfl (lv_at hl 0 rfl) ?_
                          refine gtX12_110 hx hb hts hown hK hW cz12 dX12_oddsOf_213 ?_
                          refine lv_iconst (v := (4 : Int32)) hx hb dX12_oddsOf_216 (by decide) ?_
                          refine lv_dup2_11 hx hb dX12_oddsOf_217 rfl rfl ?_
                          refine al82 hx hb hK hW cz82 (vp_in_iff.mpr (by decide)) dX12_oddsOf_218 ?_
                          refine lv_aload_n hx hb dX12_oddsOf_219 rfl (lv_at hl 0 rfl) ?_
                          refine lv_iload_n hx hb dX12_oddsOf_220 rfl (lv_at hl 1 rfl) ?_
                          refine lv_aload_n hx hb dX12_oddsOf_221 rfl (lv_at hl 0 rfl) ?_
                          refine gtX12_116 hx hb hts hown hK hW cz12 dX12_oddsOf_222 ?_
                          refine lv_iload hx hb dX12_oddsOf_225 (lv_at hl 3 rfl) ?_
                          obtain ⟨hj, h⟩ := ix_a h
                          refine al84 hx hb hK hW cz84 hj dX12_oddsOf_227 ?_
                          obtain ⟨b166, hcb166, h⟩ := bd_a h
                          refine tb_cVZ hZk hx hb hml hown hts hK hZ hW hS [.int x1, .int (mgI M151 8400 0 i150.toNatClampNeg)] (mX12_isOn (l := l) hZk x1 (mgI M151 8400 0 i150.toNatClampNeg) M151 b166 hcb166) pmX12_isOn tw1451 (Wd.recv hK hW (t := 12) (by decide) cz12 (C := RX12) (T := TX12) (N := 58) rfl) ⟨Nat.le_of_ble_eq_true rfl, Nat.le_of_ble_eq_true rfl⟩ rfl hl.1 (Nat.le_of_ble_eq_true rfl) ⟨Nat.le_refl _, Nat.le_refl _⟩ rfl dX12_oddsOf_228 (fun H locs hW hS hzz => ?_)
                          have hzb166 := hzz
                          refine lv_if_eq (tgt := 263) hx hb dX12_oddsOf_231 (by decide) (fun c167 => ?_) (fun c167 => ?_)
                          · have h := sh_t c167 h
                            refine lv_iconst (v := (0 : Int32)) hx hb dX12_oddsOf_263 (by decide) ?_
                            refine lv_iadd hx hb dX12_oddsOf_264 ?_
                            refine lv_topi (fun v168 ev168 => ?_)
                            have h := nm_a ev168 h
                            refine as82 hx hb hK hW hS cz82 (vp_in_iff.mpr (by decide)) dX12_oddsOf_265 (fun H locs hW hS => ?_)
                            obtain ⟨M169, eM169⟩ : ∃ y, y = msI M151 8200 0 ((4 : Int32).toNatClampNeg) v168 := ⟨_, rfl⟩
                            have h := nm_a eM169 h
                            rw [← eM169] at hW
                            obtain ⟨v170, ev170⟩ : ∃ y : Int32, y = i150 + (1 : Int32) := ⟨_, rfl⟩
                            have h := nm_a ev170 h
                            refine lv_iinc (v := v170) (lv' := [(4, .int v170), (0, .ref (ad 12 0)), (1, .int x1), (2, .int x2)]) hx hb dX12_oddsOf_266 hl (k := 3) rfl (by rw [ev170]; rfl) (by decide) rfl (fun ls hl => ?_)
                            refine lv_goto (tgt := 203) hx hb dX12_oddsOf_269 (by decide) ?_
                            exact ih149 v170 M169 _ _ _ hW hS (lv_sub hl [1, 2, 3, 0] rfl) h
                          · have h := sh_f c167 h
                            refine lv_aload_n hx hb dX12_oddsOf_234 rfl (lv_at hl 0 rfl) ?_
                            refine gtX12_22 hx hb hts hown hK hW cz12 dX12_oddsOf_235 ?_
                            refine lv_aload_n hx hb dX12_oddsOf_238 rfl (lv_at hl 0 rfl) ?_
                            refine gtX12_116 hx hb hts hown hK hW cz12 dX12_oddsOf_239 ?_
                            refine lv_iload hx hb dX12_oddsOf_242 (lv_at hl 3 rfl) ?_
                            obtain ⟨hj, h⟩ := ix_a h
                            refine al84 hx hb hK hW cz84 hj dX12_oddsOf_244 ?_
                            obtain ⟨hj, h⟩ := ix_a h
                            refine al54 hx hb hK hW cz54 hj dX12_oddsOf_245 ?_
                            refine lv_if_lt (tgt := 263) hx hb dX12_oddsOf_246 (by decide) (fun c171 => ?_) (fun c171 => ?_)
                            · have h := sh_t c171 h
                              refine lv_iconst (v := (0 : Int32)) hx hb dX12_oddsOf_263 (by decide) ?_
                              refine lv_iadd hx hb dX12_oddsOf_264 ?_
                              refine lv_topi (fun v172 ev172 => ?_)
                              have h := nm_a ev172 h
                              refine as82 hx hb hK hW hS cz82 (vp_in_iff.mpr (by decide)) dX12_oddsOf_265 (fun H locs hW hS => ?_)
                              obtain ⟨M173, eM173⟩ : ∃ y, y = msI M151 8200 0 ((4 : Int32).toNatClampNeg) v172 := ⟨_, rfl⟩
                              have h := nm_a eM173 h
                              rw [← eM173] at hW
                              obtain ⟨v174, ev174⟩ : ∃ y : Int32, y = i150 + (1 : Int32) := ⟨_, rfl⟩
                              have h := nm_a ev174 h
                              refine lv_iinc (v := v174) (lv' := [(4, .int v174), (0, .ref (ad 12 0)), (1, .int x1), (2, .int x2)]) hx hb dX12_oddsOf_266 hl (k := 3) rfl (by rw [ev174]; rfl) (by decide) rfl (fun ls hl => ?_)
                              refine lv_goto (tgt := 203) hx hb dX12_oddsOf_269 (by decide) ?_
                              exact ih149 v174 M173 _ _ _ hW hS (lv_sub hl [1, 2, 3, 0] rfl) h
                            · have h := sh_f c171 h
                              refine lv_aload_n hx hb dX12_oddsOf_249 rfl (lv_at hl 0 rfl) ?_
                              refine gtX12_122 hx hb hts hown hK hW cz12 dX12_oddsOf_250 ?_
                              refine lv_iload hx hb dX12_oddsOf_253 (lv_at hl 3 rfl) ?_
                              obtain ⟨hj, h⟩ := ix_a h
                              refine al86 hx hb hK hW cz86 hj dX12_oddsOf_255 ?_
                              refine lv_if_ge (tgt := 263) hx hb dX12_oddsOf_256 (by decide) (fun c175 => ?_) (fun c175 => ?_)
                              · have h := sh_t c175 h
                                refine lv_iconst (v := (0 : Int32)) hx hb dX12_oddsOf_263 (by decide) ?_
                                refine lv_iadd hx hb dX12_oddsOf_264 ?_
                                refine lv_topi (fun v176 ev176 => ?_)
                                have h := nm_a ev176 h
                                refine as82 hx hb hK hW hS cz82 (vp_in_iff.mpr (by decide)) dX12_oddsOf_265 (fun H locs hW hS => ?_)
                                obtain ⟨M177, eM177⟩ : ∃ y, y = msI M151 8200 0 ((4 : Int32).toNatClampNeg) v176 := ⟨_, rfl⟩
                                have h := nm_a eM177 h
                                rw [← eM177] at hW
                                obtain ⟨v178, ev178⟩ : ∃ y : Int32, y = i150 + (1 : Int32) := ⟨_, rfl⟩
                                have h := nm_a ev178 h
                                refine lv_iinc (v := v178) (lv' := [(4, .int v178), (0, .ref (ad 12 0)), (1, .int x1), (2, .int x2)]) hx hb dX12_oddsOf_266 hl (k := 3) rfl (by rw [ev178]; rfl) (by decide) rfl (fun ls hl => ?_)
                                refine lv_goto (tgt := 203) hx hb dX12_oddsOf_269 (by decide) ?_
                                exact ih149 v178 M177 _ _ _ hW hS (lv_sub hl [1, 2, 3, 0] rfl) h
                              · have h := sh_f c175 h
                                refine lv_iconst (v := (1 : Int32)) hx hb dX12_oddsOf_259 (by decide) ?_
                                refine lv_goto (tgt := 264) hx hb dX12_oddsOf_260 (by decide) ?_
                                refine lv_iadd hx hb dX12_oddsOf_264 ?_
                                refine lv_topi (fun v179 ev179 => ?_)
                                have h := nm_a ev179 h
                                refine as82 hx hb hK hW hS cz82 (vp_in_iff.mpr (by decide)) dX12_oddsOf_265 (fun H locs hW hS => ?_)
                                obtain ⟨M180, eM180⟩ : ∃ y, y = msI M151 8200 0 ((4 : Int32).toNatClampNeg) v179 := ⟨_, rfl⟩
                                have h := nm_a eM180 h
                                rw [← eM180] at hW
                                obtain ⟨v181, ev181⟩ : ∃ y : Int32, y = i150 + (1 : Int32) := ⟨_, rfl⟩
                                have h := nm_a ev181 h
                                refine lv_iinc (v := v181) (lv' := [(4, .int v181), (0, .ref (ad 12 0)), (1, .int x1), (2, .int x2)]) hx hb dX12_oddsOf_266 hl (k := 3) rfl (by rw [ev181]; rfl) (by decide) rfl (fun ls hl => ?_)
                                refine lv_goto (tgt := 203) hx hb dX12_oddsOf_269 (by decide) ?_
                                exact ih149 v181 M180 _ _ _ hW hS (lv_sub hl [1, 2, 3, 0] rfl) h
                    exact L149 FU (0 : Int32) M148 _ _ _ hW hS (lv_sub hl [1, 2, 3, 0] rfl) h
                · have h := sh_f c113 h
                  refine lv_aload_n hx hb dX12_oddsOf_86 rfl (lv_at hl 0 rfl) ?_
                  refine gtX12_38 hx hb hts hown hK hW cz12 dX12_oddsOf_87 ?_
                  refine lv_iload hx hb dX12_oddsOf_90 (lv_at hl 3 rfl) ?_
                  obtain ⟨hj, h⟩ := ix_a h
                  refine al59 hx hb hK hW cz59 hj dX12_oddsOf_92 ?_
                  refine lv_iload_n hx hb dX12_oddsOf_93 rfl (lv_at hl 1 rfl) ?_
                  refine lv_icmp_ne (tgt := 178) hx hb dX12_oddsOf_94 (by decide) (fun c182 => ?_) (fun c182 => ?_)
                  · have h := sh_f c182 h
                    obtain ⟨v183, ev183⟩ : ∃ y : Int32, y = i111 + (1 : Int32) := ⟨_, rfl⟩
                    have h := nm_a ev183 h
                    refine lv_iinc (v := v183) (lv' := [(4, .int v183), (0, .ref (ad 12 0)), (1, .int x1), (2, .int x2)]) hx hb dX12_oddsOf_178 hl (k := 3) rfl (by rw [ev183]; rfl) (by decide) rfl (fun ls hl => ?_)
                    refine lv_goto (tgt := 77) hx hb dX12_oddsOf_181 (by decide) ?_
                    exact ih110 v183 M112 _ _ _ hW hS (lv_sub hl [1, 2, 3, 0] rfl) h
                  · have h := sh_t c182 h
                    refine lv_aload_n hx hb dX12_oddsOf_97 rfl (lv_at hl 0 rfl) ?_
                    refine gtX12_50 hx hb hts hown hK hW cz12 dX12_oddsOf_98 ?_
                    refine lv_iload hx hb dX12_oddsOf_101 (lv_at hl 3 rfl) ?_
                    obtain ⟨hj, h⟩ := ix_a h
                    refine al63 hx hb hK hW cz63 hj dX12_oddsOf_103 ?_
                    refine lv_if_eq (tgt := 110) hx hb dX12_oddsOf_104 (by decide) (fun c184 => ?_) (fun c184 => ?_)
                    · have h := sh_t c184 h
                      refine lv_aload_n hx hb dX12_oddsOf_110 rfl (lv_at hl 0 rfl) ?_
                      refine gtX12_44 hx hb hts hown hK hW cz12 dX12_oddsOf_111 ?_
                      refine lv_iload hx hb dX12_oddsOf_114 (lv_at hl 3 rfl) ?_
                      obtain ⟨hj, h⟩ := ix_a h
                      refine al61 hx hb hK hW cz61 hj dX12_oddsOf_116 ?_
                      refine lv_aload_n hx hb dX12_oddsOf_117 rfl (lv_at hl 0 rfl) ?_
                      refine gtX12_110 hx hb hts hown hK hW cz12 dX12_oddsOf_118 ?_
                      refine lv_iconst (v := (1 : Int32)) hx hb dX12_oddsOf_121 (by decide) ?_
                      refine al82 hx hb hK hW cz82 (vp_in_iff.mpr (by decide)) dX12_oddsOf_122 ?_
                      refine lv_icmp_le (tgt := 139) hx hb dX12_oddsOf_123 (by decide) (fun c185 => ?_) (fun c185 => ?_)
                      · have h := sh_t c185 h
                        refine lv_aload_n hx hb dX12_oddsOf_139 rfl (lv_at hl 0 rfl) ?_
                        refine gtX12_47 hx hb hts hown hK hW cz12 dX12_oddsOf_140 ?_
                        refine lv_iload hx hb dX12_oddsOf_143 (lv_at hl 3 rfl) ?_
                        obtain ⟨hj, h⟩ := ix_a h
                        refine al62 hx hb hK hW cz62 hj dX12_oddsOf_145 ?_
                        refine lv_aload_n hx hb dX12_oddsOf_146 rfl (lv_at hl 0 rfl) ?_
                        refine gtX12_110 hx hb hts hown hK hW cz12 dX12_oddsOf_147 ?_
                        refine lv_iconst (v := (2 : Int32)) hx hb dX12_oddsOf_150 (by decide) ?_
                        refine al82 hx hb hK hW cz82 (vp_in_iff.mpr (by decide)) dX12_oddsOf_151 ?_
                        refine lv_icmp_ge (tgt := 168) hx hb dX12_oddsOf_152 (by decide) (fun c186 => ?_) (fun c186 => ?_)
                        · have h := sh_t c186 h
                          refine lv_aload_n hx hb dX12_oddsOf_168 rfl (lv_at hl 0 rfl) ?_
                          refine gtX12_110 hx hb hts hown hK hW cz12 dX12_oddsOf_169 ?_
                          refine lv_iconst (v := (3 : Int32)) hx hb dX12_oddsOf_172 (by decide) ?_
                          refine lv_dup2_11 hx hb dX12_oddsOf_173 rfl rfl ?_
                          refine al82 hx hb hK hW cz82 (vp_in_iff.mpr (by decide)) dX12_oddsOf_174 ?_
                          refine lv_iconst (v := (1 : Int32)) hx hb dX12_oddsOf_175 (by decide) ?_
                          refine lv_iadd hx hb dX12_oddsOf_176 ?_
                          refine lv_topi (fun v187 ev187 => ?_)
                          have h := nm_a ev187 h
                          refine as82 hx hb hK hW hS cz82 (vp_in_iff.mpr (by decide)) dX12_oddsOf_177 (fun H locs hW hS => ?_)
                          obtain ⟨M188, eM188⟩ : ∃ y, y = msI M112 8200 0 ((3 : Int32).toNatClampNeg) v187 := ⟨_, rfl⟩
                          have h := nm_a eM188 h
                          rw [← eM188] at hW
                          obtain ⟨v189, ev189⟩ : ∃ y : Int32, y = i111 + (1 : Int32) := ⟨_, rfl⟩
                          have h := nm_a ev189 h
                          refine lv_iinc (v := v189) (lv' := [(4, .int v189), (0, .ref (ad 12 0)), (1, .int x1), (2, .int x2)]) hx hb dX12_oddsOf_178 hl (k := 3) rfl (by rw [ev189]; rfl) (by decide) rfl (fun ls hl => ?_)
                          refine lv_goto (tgt := 77) hx hb dX12_oddsOf_181 (by decide) ?_
                          exact ih110 v189 M188 _ _ _ hW hS (lv_sub hl [1, 2, 3, 0] rfl) h
                        · have h := sh_f c186 h
                          refine lv_aload_n hx hb dX12_oddsOf_155 rfl (lv_at hl 0 rfl) ?_
                          refine gtX12_110 hx hb hts hown hK hW cz12 dX12_oddsOf_156 ?_
                          refine lv_iconst (v := (2 : Int32)) hx hb dX12_oddsOf_159 (by decide) ?_
                          refine lv_aload_n hx hb dX12_oddsOf_160 rfl (lv_at hl 0 rfl) ?_
                          refine gtX12_47 hx hb hts hown hK hW cz12 dX12_oddsOf_161 ?_
                          refine lv_iload hx hb dX12_oddsOf_164 (lv_at hl 3 rfl) ?_
                          obtain ⟨hj, h⟩ := ix_a h
                          refine al62 hx hb hK hW cz62 hj dX12_oddsOf_166 ?_
                          refine lv_topi (fun v190 ev190 => ?_)
                          have h := nm_a ev190 h
                          refine as82 hx hb hK hW hS cz82 (vp_in_iff.mpr (by decide)) dX12_oddsOf_167 (fun H locs hW hS => ?_)
                          obtain ⟨M191, eM191⟩ : ∃ y, y = msI M112 8200 0 ((2 : Int32).toNatClampNeg) v190 := ⟨_, rfl⟩
                          have h := nm_a eM191 h
                          rw [← eM191] at hW
                          refine lv_aload_n hx hb dX12_oddsOf_168 rfl (lv_at hl 0 rfl) ?_
                          refine gtX12_110 hx hb hts hown hK hW cz12 dX12_oddsOf_169 ?_
                          refine lv_iconst (v := (3 : Int32)) hx hb dX12_oddsOf_172 (by decide) ?_
                          refine lv_dup2_11 hx hb dX12_oddsOf_173 rfl rfl ?_
                          refine al82 hx hb hK hW cz82 (vp_in_iff.mpr (by decide)) dX12_oddsOf_174 ?_
                          refine lv_iconst (v := (1 : Int32)) hx hb dX12_oddsOf_175 (by decide) ?_
                          refine lv_iadd hx hb dX12_oddsOf_176 ?_
                          refine lv_topi (fun v192 ev192 => ?_)
                          have h := nm_a ev192 h
                          refine as82 hx hb hK hW hS cz82 (vp_in_iff.mpr (by decide)) dX12_oddsOf_177 (fun H locs hW hS => ?_)
                          obtain ⟨M193, eM193⟩ : ∃ y, y = msI M191 8200 0 ((3 : Int32).toNatClampNeg) v192 := ⟨_, rfl⟩
                          have h := nm_a eM193 h
                          rw [← eM193] at hW
                          obtain ⟨v194, ev194⟩ : ∃ y : Int32, y = i111 + (1 : Int32) := ⟨_, rfl⟩
                          have h := nm_a ev194 h
                          refine lv_iinc (v := v194) (lv' := [(4, .int v194), (0, .ref (ad 12 0)), (1, .int x1), (2, .int x2)]) hx hb dX12_oddsOf_178 hl (k := 3) rfl (by rw [ev194]; rfl) (by decide) rfl (fun ls hl => ?_)
                          refine lv_goto (tgt := 77) hx hb dX12_oddsOf_181 (by decide) ?_
                          exact ih110 v194 M193 _ _ _ hW hS (lv_sub hl [1, 2, 3, 0] rfl) h
                      · have h := sh_f c185 h
                        refine lv_aload_n hx hb dX12_oddsOf_126 rfl (lv_at hl 0 rfl) ?_
                        refine gtX12_110 hx hb hts hown hK hW cz12 dX12_oddsOf_127 ?_
                        refine lv_iconst (v := (1 : Int32)) hx hb dX12_oddsOf_130 (by decide) ?_
                        refine lv_aload_n hx hb dX12_oddsOf_131 rfl (lv_at hl 0 rfl) ?_
                        refine gtX12_44 hx hb hts hown hK hW cz12 dX12_oddsOf_132 ?_
                        refine lv_iload hx hb dX12_oddsOf_135 (lv_at hl 3 rfl) ?_
                        obtain ⟨hj, h⟩ := ix_a h
                        refine al61 hx hb hK hW cz61 hj dX12_oddsOf_137 ?_
                        refine lv_topi (fun v195 ev195 => ?_)
                        have h := nm_a ev195 h
                        refine as82 hx hb hK hW hS cz82 (vp_in_iff.mpr (by decide)) dX12_oddsOf_138 (fun H locs hW hS => ?_)
                        obtain ⟨M196, eM196⟩ : ∃ y, y = msI M112 8200 0 ((1 : Int32).toNatClampNeg) v195 := ⟨_, rfl⟩
                        have h := nm_a eM196 h
                        rw [← eM196] at hW
                        refine lv_aload_n hx hb dX12_oddsOf_139 rfl (lv_at hl 0 rfl) ?_
                        refine gtX12_47 hx hb hts hown hK hW cz12 dX12_oddsOf_140 ?_
                        refine lv_iload hx hb dX12_oddsOf_143 (lv_at hl 3 rfl) ?_
                        obtain ⟨hj, h⟩ := ix_a h
                        refine al62 hx hb hK hW cz62 hj dX12_oddsOf_145 ?_
                        refine lv_aload_n hx hb dX12_oddsOf_146 rfl (lv_at hl 0 rfl) ?_
                        refine gtX12_110 hx hb hts hown hK hW cz12 dX12_oddsOf_147 ?_
                        refine lv_iconst (v := (2 : Int32)) hx hb dX12_oddsOf_150 (by decide) ?_
                        refine al82 hx hb hK hW cz82 (vp_in_iff.mpr (by decide)) dX12_oddsOf_151 ?_
                        refine lv_icmp_ge (tgt := 168) hx hb dX12_oddsOf_152 (by decide) (fun c197 => ?_) (fun c197 => ?_)
                        · have h := sh_t c197 h
                          refine lv_aload_n hx hb dX12_oddsOf_168 rfl (lv_at hl 0 rfl) ?_
                          refine gtX12_110 hx hb hts hown hK hW cz12 dX12_oddsOf_169 ?_
                          refine lv_iconst (v := (3 : Int32)) hx hb dX12_oddsOf_172 (by decide) ?_
                          refine lv_dup2_11 hx hb dX12_oddsOf_173 rfl rfl ?_
                          refine al82 hx hb hK hW cz82 (vp_in_iff.mpr (by decide)) dX12_oddsOf_174 ?_
                          refine lv_iconst (v := (1 : Int32)) hx hb dX12_oddsOf_175 (by decide) ?_
                          refine lv_iadd hx hb dX12_oddsOf_176 ?_
                          refine lv_topi (fun v198 ev198 => ?_)
                          have h := nm_a ev198 h
                          refine as82 hx hb hK hW hS cz82 (vp_in_iff.mpr (by decide)) dX12_oddsOf_177 (fun H locs hW hS => ?_)
                          obtain ⟨M199, eM199⟩ : ∃ y, y = msI M196 8200 0 ((3 : Int32).toNatClampNeg) v198 := ⟨_, rfl⟩
                          have h := nm_a eM199 h
                          rw [← eM199] at hW
                          obtain ⟨v200, ev200⟩ : ∃ y : Int32, y = i111 + (1 : Int32) := ⟨_, rfl⟩
                          have h := nm_a ev200 h
                          refine lv_iinc (v := v200) (lv' := [(4, .int v200), (0, .ref (ad 12 0)), (1, .int x1), (2, .int x2)]) hx hb dX12_oddsOf_178 hl (k := 3) rfl (by rw [ev200]; rfl) (by decide) rfl (fun ls hl => ?_)
                          refine lv_goto (tgt := 77) hx hb dX12_oddsOf_181 (by decide) ?_
                          exact ih110 v200 M199 _ _ _ hW hS (lv_sub hl [1, 2, 3, 0] rfl) h
                        · have h := sh_f c197 h
                          refine lv_aload_n hx hb dX12_oddsOf_155 rfl (lv_at hl 0 rfl) ?_
                          refine gtX12_110 hx hb hts hown hK hW cz12 dX12_oddsOf_156 ?_
                          refine lv_iconst (v := (2 : Int32)) hx hb dX12_oddsOf_159 (by decide) ?_
                          refine lv_aload_n hx hb dX12_oddsOf_160 rfl (lv_at hl 0 rfl) ?_
                          refine gtX12_47 hx hb hts hown hK hW cz12 dX12_oddsOf_161 ?_
                          refine lv_iload hx hb dX12_oddsOf_164 (lv_at hl 3 rfl) ?_
                          obtain ⟨hj, h⟩ := ix_a h
                          refine al62 hx hb hK hW cz62 hj dX12_oddsOf_166 ?_
                          refine lv_topi (fun v201 ev201 => ?_)
                          have h := nm_a ev201 h
                          refine as82 hx hb hK hW hS cz82 (vp_in_iff.mpr (by decide)) dX12_oddsOf_167 (fun H locs hW hS => ?_)
                          obtain ⟨M202, eM202⟩ : ∃ y, y = msI M196 8200 0 ((2 : Int32).toNatClampNeg) v201 := ⟨_, rfl⟩
                          have h := nm_a eM202 h
                          rw [← eM202] at hW
                          refine lv_aload_n hx hb dX12_oddsOf_168 rfl (lv_at hl 0 rfl) ?_
                          refine gtX12_110 hx hb hts hown hK hW cz12 dX12_oddsOf_169 ?_
                          refine lv_iconst (v := (3 : Int32)) hx hb dX12_oddsOf_172 (by decide) ?_
                          refine lv_dup2_11 hx hb dX12_oddsOf_173 rfl rfl ?_
                          refine al82 hx hb hK hW cz82 (vp_in_iff.mpr (by decide)) dX12_oddsOf_174 ?_
                          refine lv_iconst (v := (1 : Int32)) hx hb dX12_oddsOf_175 (by decide) ?_
                          refine lv_iadd hx hb dX12_oddsOf_176 ?_
                          refine lv_topi (fun v203 ev203 => ?_)
                          have h := nm_a ev203 h
                          refine as82 hx hb hK hW hS cz82 (vp_in_iff.mpr (by decide)) dX12_oddsOf_177 (fun H locs hW hS => ?_)
                          obtain ⟨M204, eM204⟩ : ∃ y, y = msI M202 8200 0 ((3 : Int32).toNatClampNeg) v203 := ⟨_, rfl⟩
                          have h := nm_a eM204 h
                          rw [← eM204] at hW
                          obtain ⟨v205, ev205⟩ : ∃ y : Int32, y = i111 + (1 : Int32) := ⟨_, rfl⟩
                          have h := nm_a ev205 h
                          refine lv_iinc (v := v205) (lv' := [(4, .int v205), (0, .ref (ad 12 0)), (1, .int x1), (2, .int x2)]) hx hb dX12_oddsOf_178 hl (k := 3) rfl (by rw [ev205]; rfl) (by decide) rfl (fun ls hl => ?_)
                          refine lv_goto (tgt := 77) hx hb dX12_oddsOf_181 (by decide) ?_
                          exact ih110 v205 M204 _ _ _ hW hS (lv_sub hl [1, 2, 3, 0] rfl) h
                    · have h := sh_f c184 h
                      refine lv_goto (tgt := 178) hx hb dX12_oddsOf_107 (by decide) ?_
                      obtain ⟨v206, ev206⟩ : ∃ y : Int32, y = i111 + (1 : Int32) := ⟨_, rfl⟩
                      have h := nm_a ev206 h
                      refine lv_iinc (v := v206) (lv' := [(4, .int v206), (0, .ref (ad 12 0)), (1, .int x1), (2, .int x2)]) hx hb dX12_oddsOf_178 hl (k := 3) rfl (by rw [ev206]; rfl) (by decide) rfl (fun ls hl => ?_)
                      refine lv_goto (tgt := 77) hx hb dX12_oddsOf_181 (by decide) ?_
                      exact ih110 v206 M112 _ _ _ hW hS (lv_sub hl [1, 2, 3, 0] rfl) h
            exact L110 FU (0 : Int32) M109 _ _ _ hW hS (lv_sub hl [2, 3, 4, 0] rfl) h
        · have h := sh_f c5 h
          refine lv_aload_n hx hb dX12_oddsOf_28 rfl (lv_at hl 0 rfl) ?_
          refine gtX12_110 hx hb hts hown hK hW cz12 dX12_oddsOf_29 ?_
          refine lv_iload_n hx hb dX12_oddsOf_32 rfl (lv_at hl 3 rfl) ?_
          refine lv_iconst (v := (0 : Int32)) hx hb dX12_oddsOf_33 (by decide) ?_
          obtain ⟨hj, h⟩ := ix_a h
          refine as82 hx hb hK hW hS cz82 hj dX12_oddsOf_34 (fun H locs hW hS => ?_)
          obtain ⟨M207, eM207⟩ : ∃ y, y = msI M4 8200 0 i3.toNatClampNeg (0 : Int32) := ⟨_, rfl⟩
          have h := nm_a eM207 h
          rw [← eM207] at hW
          obtain ⟨v208, ev208⟩ : ∃ y : Int32, y = i3 + (1 : Int32) := ⟨_, rfl⟩
          have h := nm_a ev208 h
          refine lv_iinc (v := v208) (lv' := [(3, .int v208), (0, .ref (ad 12 0)), (1, .int x1), (2, .int x2)]) hx hb dX12_oddsOf_35 hl (k := 3) rfl (by rw [ev208]; rfl) (by decide) rfl (fun ls hl => ?_)
          refine lv_goto (tgt := 22) hx hb dX12_oddsOf_38 (by decide) ?_
          exact ih2 v208 M207 _ _ _ hW hS (lv_sub hl [1, 2, 3, 0] rfl) h
    exact L2 FU (0 : Int32) M0 _ _ _ hW hS (lv_sub hl [1, 2, 3, 0] rfl) h
  · have h := sh_t c1 h
    refine lv_iload_n hx hb dX12_oddsOf_9 rfl (lv_at hl 2 rfl) ?_
    refine lv_if_ne (tgt := 18) hx hb dX12_oddsOf_10 (by decide) (fun c209 => ?_) (fun c209 => ?_)
    · have h := sh_f c209 h
      refine lv_iconst (v := (0 : Int32)) hx hb dX12_oddsOf_18 (by decide) ?_
      exact tb_iretE h hx hb hr hS hW hlk dX12_oddsOf_19
    · have h := sh_t c209 h
      refine lv_bipush (v := (100 : Int32)) hx hb dX12_oddsOf_13 (by decide) ?_
      refine lv_goto (tgt := 19) hx hb dX12_oddsOf_15 (by decide) ?_
      exact tb_iretE h hx hb hr hS hW hlk dX12_oddsOf_19
