def fX12_element (x1 : Int32) (x2 : Int32) (M0 : Mem) : Option Int64 :=
  bd (fX12_whyNoPlace x1 x2 M0) fun b1 => if 0 ≤ b1 then (ix (((60 : Int32) * x1) + x2) 360 <| some (mgL M0 9100 0 (((60 : Int32) * x1) + x2).toNatClampNeg)) else (some (-9223372036854775808 : Int64))
set_option maxHeartbeats 4000000 in
set_option maxRecDepth 100000 in
theorem mX12_element {l : Launch} {D : va_G} {cy : Nat → ClassId} {A : Nat → Prop} {Z : State → Heap → Prop} {ad : Nat → Nat → Nat} (hZk : ZOK A Z) (x1 : Int32) (x2 : Int32) (M0 : Mem) (r : Int64) (h : fX12_element x1 x2 M0 = some r) : Met l yX12_element (wt yX12_element cX12_element 3 (some .long)) (rm 3 64) (CPre D cy A Z cnM ad M0 [.ref (ad 12 0), .int x1, .int x2]) (QL D cy A cnM ad r M0) 0 0 A := by
  refine tb_start [.ref (ad 12 0), .int x1, .int x2] [(0, .ref (ad 12 0)), (1, .int x1), (2, .int x2)] RX12 rfl (by decide +kernel) (Nat.le_of_ble_eq_true rfl) rfl (fun p e s m args below meth c hx hb hr hml hown hts hlk hW hK hZ ls hl => ?_)
  have hS : va_S A s.heap s.heap [] := va_S.rf
  unfold fX12_element at h
  refine lv_aload_n hx hb dX12_element_0 rfl (lv_at hl 0 rfl) ?_
  refine lv_iload_n hx hb dX12_element_1 rfl (lv_at hl 1 rfl) ?_
  refine lv_iload_n hx hb dX12_element_2 rfl (lv_at hl 2 rfl) ?_
  obtain ⟨b1, hcb1, h⟩ := bd_a h
  refine tb_cVI hZk hx hb hml hown hts hK hZ hW hS [.int x1, .int x2] (mX12_whyNoPlace (l := l) hZk x1 x2 M0 b1 hcb1) pmX12_whyNoPlace tw1770 (Wd.recv hK hW (t := 12) (by decide) cz12 (C := RX12) (T := TX12) (N := 58) rfl) ⟨Nat.le_of_ble_eq_true rfl, Nat.le_of_ble_eq_true rfl⟩ rfl hl.1 (Nat.le_of_ble_eq_true rfl) ⟨Nat.le_refl _, Nat.le_refl _⟩ rfl dX12_element_3 (fun H locs hW hS => ?_)
  refine lv_if_ge (tgt := 15) hx hb dX12_element_6 (by decide) (fun c2 => ?_) (fun c2 => ?_)
  · have h := sh_t c2 h
    refine lv_aload_n hx hb dX12_element_15 rfl (lv_at hl 0 rfl) ?_
    refine gtX12_137 hx hb hts hown hK hW cz12 dX12_element_16 ?_
    refine lv_bipush (v := (60 : Int32)) hx hb dX12_element_19 (by decide) ?_
    refine lv_iload_n hx hb dX12_element_21 rfl (lv_at hl 1 rfl) ?_
    refine lv_imul hx hb dX12_element_22 ?_
    refine lv_iload_n hx hb dX12_element_23 rfl (lv_at hl 2 rfl) ?_
    refine lv_iadd hx hb dX12_element_24 ?_
    obtain ⟨hj, h⟩ := ix_a h
    refine al91 hx hb hK hW cz91 hj dX12_element_25 ?_
    exact tb_lretO h hx hb hr hS hW hlk dX12_element_26
  · have h := sh_f c2 h
    refine lv_ldc2 hx hb hown (hts _ tw1778) dX12_element_9 ?_
    refine lv_goto (tgt := 26) hx hb dX12_element_12 (by decide) ?_
    exact tb_lretO h hx hb hr hS hW hlk dX12_element_26
def fX12_shift_b150 (x5 : Int32) (x3 : Int32) (x4 : Int32) (k18 : Int32 → Mem → Option (Int32 × Mem)) (i19 : Int32) (M20 : Mem) : Option (Int32 × Mem) :=
  if x5 ≤ i19 then (some (x5, M20)) else (ix i19 60 <| nm (mgL M20 9200 0 i19.toNatClampNeg) fun v22 => ix ((((60 : Int32) * x3) + x4) + i19) 360 <| nm (msL M20 9100 0 (((((60 : Int32) * x3) + x4) + i19).toNatClampNeg) v22) fun M23 => nm (i19 + (1 : Int32)) fun v24 => k18 v24 M23)
def fX12_shift_l150 (x5 : Int32) (x3 : Int32) (x4 : Int32) : Nat → Int32 → Mem → Option (Int32 × Mem)
  | 0, _, _ => none
  | n + 1, i19, M20 => fX12_shift_b150 x5 x3 x4 (fX12_shift_l150 x5 x3 x4 n) i19 M20
def fX12_shift_b113 (x5 : Int32) (x3 : Int32) (x4 : Int32) (x1 : Int32) (x2 : Int32) (k14 : Int32 → Mem → Option (Int32 × Mem)) (i15 : Int32) (M16 : Mem) : Option (Int32 × Mem) :=
  if x5 ≤ i15 then (fX12_shift_l150 x5 x3 x4 FU (0 : Int32) M16) else (ix ((((60 : Int32) * x1) + x2) + i15) 360 <| nm (mgL M16 9100 0 ((((60 : Int32) * x1) + x2) + i15).toNatClampNeg) fun v25 => ix i15 60 <| nm (msL M16 9200 0 i15.toNatClampNeg v25) fun M26 => nm (i15 + (1 : Int32)) fun v27 => k14 v27 M26)
def fX12_shift_l113 (x5 : Int32) (x3 : Int32) (x4 : Int32) (x1 : Int32) (x2 : Int32) : Nat → Int32 → Mem → Option (Int32 × Mem)
  | 0, _, _ => none
  | n + 1, i15, M16 => fX12_shift_b113 x5 x3 x4 x1 x2 (fX12_shift_l113 x5 x3 x4 x1 x2 n) i15 M16
def fX12_shift (x1 : Int32) (x2 : Int32) (x3 : Int32) (x4 : Int32) (x5 : Int32) (M0 : Mem) : Option (Int32 × Mem) :=
  nm (fX12_isShelf x1) fun b1 => if b1 = 0 then (some ((-1 : Int32), M0)) else (nm (fX12_isShelf x3) fun b3 => if b3 = 0 then (some ((-1 : Int32), M0)) else (ix x1 6 <| if (mgI M0 8900 0 x1.toNatClampNeg) = (-1 : Int32) then (some ((-11 : Int32), M0)) else (ix x3 6 <| if (mgI M0 8900 0 x3.toNatClampNeg) = (-1 : Int32) then (some ((-11 : Int32), M0)) else (ix x1 6 <| if 0 ≤ (mgI M0 8900 0 x1.toNatClampNeg) then (some ((-12 : Int32), M0)) else (ix x1 6 <| ix x3 6 <| if (mgI M0 8900 0 x1.toNatClampNeg) = (mgI M0 8900 0 x3.toNatClampNeg) then (if x5 < 0 then (some ((-13 : Int32), M0)) else (if x2 < 0 then (some ((-13 : Int32), M0)) else (if x4 < 0 then (some ((-13 : Int32), M0)) else (ix x1 6 <| if ((mgI M0 9000 0 x1.toNatClampNeg) - x5) < x2 then (some ((-13 : Int32), M0)) else (ix x3 6 <| if x4 ≤ ((mgI M0 9000 0 x3.toNatClampNeg) - x5) then (fX12_shift_l113 x5 x3 x4 x1 x2 FU (0 : Int32) M0) else (some ((-13 : Int32), M0))))))) else (some ((-12 : Int32), M0)))))))
set_option maxHeartbeats 4000000 in
set_option maxRecDepth 100000 in
theorem mX12_shift {l : Launch} {D : va_G} {cy : Nat → ClassId} {A : Nat → Prop} {Z : State → Heap → Prop} {ad : Nat → Nat → Nat} (hZk : ZOK A Z) (x1 : Int32) (x2 : Int32) (x3 : Int32) (x4 : Int32) (x5 : Int32) (M0 : Mem) (r : Int32) (M' : Mem) (h : fX12_shift x1 x2 x3 x4 x5 M0 = some (r, M')) : Met l yX12_shift (wt yX12_shift cX12_shift 7 (some .int)) (rm 2 42) (CPre D cy A Z cnM ad M0 [.ref (ad 12 0), .int x1, .int x2, .int x3, .int x4, .int x5]) (QI D cy A cnM ad r M') 0 0 A := by
  refine tb_start [.ref (ad 12 0), .int x1, .int x2, .int x3, .int x4, .int x5] [(0, .ref (ad 12 0)), (1, .int x1), (2, .int x2), (3, .int x3), (4, .int x4), (5, .int x5)] RX12 rfl (by decide +kernel) (Nat.le_of_ble_eq_true rfl) rfl (fun p e s m args below meth c hx hb hr hml hown hts hlk hW hK hZ ls hl => ?_)
  have hS : va_S A s.heap s.heap [] := va_S.rf
  unfold fX12_shift at h
  refine lv_iload_n hx hb dX12_shift_0 rfl (lv_at hl 1 rfl) ?_
  refine tb_cSZ hZk hx hb hml hown hts hK hZ hW hS [.int x1] (mX12_isShelf (l := l) hZk x1 M0 (fX12_isShelf x1) rfl) pmX12_isShelf tw1427 ⟨Nat.le_of_ble_eq_true rfl, Nat.le_of_ble_eq_true rfl⟩ rfl hl.1 (Nat.le_of_ble_eq_true rfl) ⟨Nat.le_refl _, Nat.le_refl _⟩ rfl dX12_shift_1 (fun H locs hW hS hzz => ?_)
  refine lv_topi (fun b1 eb1 => ?_)
  have h := nm_a eb1 h
  have hzb1 : b1 = 0 ∨ b1 = 1 := by rw [eb1]; exact hzz
  refine lv_if_eq (tgt := 14) hx hb dX12_shift_4 (by decide) (fun c2 => ?_) (fun c2 => ?_)
  · have h := sh_t c2 h
    refine lv_iconst (v := (-1 : Int32)) hx hb dX12_shift_14 (by decide) ?_
    exact tb_iretE h hx hb hr hS hW hlk dX12_shift_15
  · have h := sh_f c2 h
    refine lv_iload_n hx hb dX12_shift_7 rfl (lv_at hl 3 rfl) ?_
    refine tb_cSZ hZk hx hb hml hown hts hK hZ hW hS [.int x3] (mX12_isShelf (l := l) hZk x3 M0 (fX12_isShelf x3) rfl) pmX12_isShelf tw1427 ⟨Nat.le_of_ble_eq_true rfl, Nat.le_of_ble_eq_true rfl⟩ rfl hl.1 (Nat.le_of_ble_eq_true rfl) ⟨Nat.le_refl _, Nat.le_refl _⟩ rfl dX12_shift_8 (fun H locs hW hS hzz => ?_)
    refine lv_topi (fun b3 eb3 => ?_)
    have h := nm_a eb3 h
    have hzb3 : b3 = 0 ∨ b3 = 1 := by rw [eb3]; exact hzz
    refine lv_if_ne (tgt := 16) hx hb dX12_shift_11 (by decide) (fun c4 => ?_) (fun c4 => ?_)
    · have h := sh_f c4 h
      refine lv_aload_n hx hb dX12_shift_16 rfl (lv_at hl 0 rfl) ?_
      refine gtX12_131 hx hb hts hown hK hW cz12 dX12_shift_17 ?_
      refine lv_iload_n hx hb dX12_shift_20 rfl (lv_at hl 1 rfl) ?_
      obtain ⟨hj, h⟩ := ix_a h
      refine al89 hx hb hK hW cz89 hj dX12_shift_21 ?_
      refine lv_iconst (v := (-1 : Int32)) hx hb dX12_shift_22 (by decide) ?_
      refine lv_icmp_eq (tgt := 36) hx hb dX12_shift_23 (by decide) (fun c5 => ?_) (fun c5 => ?_)
      · have h := sh_t c5 h
        refine lv_bipush (v := (-11 : Int32)) hx hb dX12_shift_36 (by decide) ?_
        exact tb_iretE h hx hb hr hS hW hlk dX12_shift_38
      · have h := sh_f c5 h
        refine lv_aload_n hx hb dX12_shift_26 rfl (lv_at hl 0 rfl) ?_
        refine gtX12_131 hx hb hts hown hK hW cz12 dX12_shift_27 ?_
        refine lv_iload_n hx hb dX12_shift_30 rfl (lv_at hl 3 rfl) ?_
        obtain ⟨hj, h⟩ := ix_a h
        refine al89 hx hb hK hW cz89 hj dX12_shift_31 ?_
        refine lv_iconst (v := (-1 : Int32)) hx hb dX12_shift_32 (by decide) ?_
        refine lv_icmp_ne (tgt := 39) hx hb dX12_shift_33 (by decide) (fun c6 => ?_) (fun c6 => ?_)
        · have h := sh_f c6 h
          refine lv_aload_n hx hb dX12_shift_39 rfl (lv_at hl 0 rfl) ?_
          refine gtX12_131 hx hb hts hown hK hW cz12 dX12_shift_40 ?_
          refine lv_iload_n hx hb dX12_shift_43 rfl (lv_at hl 1 rfl) ?_
          obtain ⟨hj, h⟩ := ix_a h
          refine al89 hx hb hK hW cz89 hj dX12_shift_44 ?_
          refine lv_if_ge (tgt := 63) hx hb dX12_shift_45 (by decide) (fun c7 => ?_) (fun c7 => ?_)
          · have h := sh_t c7 h
            refine lv_bipush (v := (-12 : Int32)) hx hb dX12_shift_63 (by decide) ?_
            exact tb_iretE h hx hb hr hS hW hlk dX12_shift_65
          · have h := sh_f c7 h
            refine lv_aload_n hx hb dX12_shift_48 rfl (lv_at hl 0 rfl) ?_
            refine gtX12_131 hx hb hts hown hK hW cz12 dX12_shift_49 ?_
            refine lv_iload_n hx hb dX12_shift_52 rfl (lv_at hl 1 rfl) ?_
            obtain ⟨hj, h⟩ := ix_a h
            refine al89 hx hb hK hW cz89 hj dX12_shift_53 ?_
            refine lv_aload_n hx hb dX12_shift_54 rfl (lv_at hl 0 rfl) ?_
            refine gtX12_131 hx hb hts hown hK hW cz12 dX12_shift_55 ?_
            refine lv_iload_n hx hb dX12_shift_58 rfl (lv_at hl 3 rfl) ?_
            obtain ⟨hj, h⟩ := ix_a h
            refine al89 hx hb hK hW cz89 hj dX12_shift_59 ?_
            refine lv_icmp_eq (tgt := 66) hx hb dX12_shift_60 (by decide) (fun c8 => ?_) (fun c8 => ?_)
            · have h := sh_t c8 h
              refine lv_iload hx hb dX12_shift_66 (lv_at hl 5 rfl) ?_
              refine lv_if_lt (tgt := 107) hx hb dX12_shift_68 (by decide) (fun c9 => ?_) (fun c9 => ?_)
              · have h := sh_t c9 h
                refine lv_bipush (v := (-13 : Int32)) hx hb dX12_shift_107 (by decide) ?_
                exact tb_iretE h hx hb hr hS hW hlk dX12_shift_109
              · have h := sh_f c9 h
                refine lv_iload_n hx hb dX12_shift_71 rfl (lv_at hl 2 rfl) ?_
                refine lv_if_lt (tgt := 107) hx hb dX12_shift_72 (by decide) (fun c10 => ?_) (fun c10 => ?_)
                · have h := sh_t c10 h
                  refine lv_bipush (v := (-13 : Int32)) hx hb dX12_shift_107 (by decide) ?_
                  exact tb_iretE h hx hb hr hS hW hlk dX12_shift_109
                · have h := sh_f c10 h
                  refine lv_iload hx hb dX12_shift_75 (lv_at hl 4 rfl) ?_
                  refine lv_if_lt (tgt := 107) hx hb dX12_shift_77 (by decide) (fun c11 => ?_) (fun c11 => ?_)
                  · have h := sh_t c11 h
                    refine lv_bipush (v := (-13 : Int32)) hx hb dX12_shift_107 (by decide) ?_
                    exact tb_iretE h hx hb hr hS hW hlk dX12_shift_109
                  · have h := sh_f c11 h
                    refine lv_iload_n hx hb dX12_shift_80 rfl (lv_at hl 2 rfl) ?_
                    refine lv_aload_n hx hb dX12_shift_81 rfl (lv_at hl 0 rfl) ?_
                    refine gtX12_134 hx hb hts hown hK hW cz12 dX12_shift_82 ?_
                    refine lv_iload_n hx hb dX12_shift_85 rfl (lv_at hl 1 rfl) ?_
                    obtain ⟨hj, h⟩ := ix_a h
                    refine al90 hx hb hK hW cz90 hj dX12_shift_86 ?_
                    refine lv_iload hx hb dX12_shift_87 (lv_at hl 5 rfl) ?_
                    refine lv_isub hx hb dX12_shift_89 ?_
                    refine lv_icmp_gt (tgt := 107) hx hb dX12_shift_90 (by decide) (fun c12 => ?_) (fun c12 => ?_)
                    · have h := sh_t c12 h
                      refine lv_bipush (v := (-13 : Int32)) hx hb dX12_shift_107 (by decide) ?_
                      exact tb_iretE h hx hb hr hS hW hlk dX12_shift_109
                    · have h := sh_f c12 h
                      refine lv_iload hx hb dX12_shift_93 (lv_at hl 4 rfl) ?_
                      refine lv_aload_n hx hb dX12_shift_95 rfl (lv_at hl 0 rfl) ?_
                      refine gtX12_134 hx hb hts hown hK hW cz12 dX12_shift_96 ?_
                      refine lv_iload_n hx hb dX12_shift_99 rfl (lv_at hl 3 rfl) ?_
                      obtain ⟨hj, h⟩ := ix_a h
                      refine al90 hx hb hK hW cz90 hj dX12_shift_100 ?_
                      refine lv_iload hx hb dX12_shift_101 (lv_at hl 5 rfl) ?_
                      refine lv_isub hx hb dX12_shift_103 ?_
                      refine lv_icmp_le (tgt := 110) hx hb dX12_shift_104 (by decide) (fun c13 => ?_) (fun c13 => ?_)
                      · have h := sh_t c13 h
                        refine lv_iconst (v := (0 : Int32)) hx hb dX12_shift_110 (by decide) ?_
                        refine lv_istore (lv' := [(6, .int (0 : Int32)), (0, .ref (ad 12 0)), (1, .int x1), (2, .int x2), (3, .int x3), (4, .int x4), (5, .int x5)]) hx hb dX12_shift_111 hl (by decide) rfl (fun ls hl => ?_)
                        have L14 : ∀ (n14 : Nat) (i15 : Int32) (M16 : Mem) (H : Heap) (locs : List Loc) (ls : Array Slot), Wd D cy A cnM ad M16 H → va_S A s.heap H locs → lv_has ls 7 [(0, .ref (ad 12 0)), (1, .int x1), (2, .int x2), (3, .int x3), (4, .int x4), (5, .int x5), (6, .int i15)] → fX12_shift_l113 x5 x3 x4 x1 x2 n14 i15 M16 = some (r, M') → W p l e (rm 2 42) s m args below meth c H locs 0 0 (MQ below (QI D cy A cnM ad r M') args s 0 0 A) (F0 m 113 ls []) := by
                          intro n14
                          induction n14 with
                          | zero => intro i15 M16 H locs ls hW hS hl h; cases h
                          | succ n14 ih14 =>
                            intro i15 M16 H locs ls hW hS hl h
                            unfold fX12_shift_l113 fX12_shift_b113 at h
                            refine lv_iload hx hb dX12_shift_113 (lv_at hl 6 rfl) ?_
                            refine lv_iload hx hb dX12_shift_115 (lv_at hl 5 rfl) ?_
                            refine lv_icmp_ge (tgt := 147) hx hb dX12_shift_117 (by decide) (fun c17 => ?_) (fun c17 => ?_)
                            · have h := sh_t c17 h
                              refine lv_iconst (v := (0 : Int32)) hx hb dX12_shift_147 (by decide) ?_
                              refine lv_istore (lv' := [(6, .int (0 : Int32)), (0, .ref (ad 12 0)), (1, .int x1), (2, .int x2), (3, .int x3), (4, .int x4), (5, .int x5)]) hx hb dX12_shift_148 hl (by decide) rfl (fun ls hl => ?_)
                              have L18 : ∀ (n18 : Nat) (i19 : Int32) (M20 : Mem) (H : Heap) (locs : List Loc) (ls : Array Slot), Wd D cy A cnM ad M20 H → va_S A s.heap H locs → lv_has ls 7 [(0, .ref (ad 12 0)), (3, .int x3), (4, .int x4), (5, .int x5), (6, .int i19)] → fX12_shift_l150 x5 x3 x4 n18 i19 M20 = some (r, M') → W p l e (rm 2 42) s m args below meth c H locs 0 0 (MQ below (QI D cy A cnM ad r M') args s 0 0 A) (F0 m 150 ls []) := by
                                intro n18
                                induction n18 with
                                | zero => intro i19 M20 H locs ls hW hS hl h; cases h
                                | succ n18 ih18 =>
                                  intro i19 M20 H locs ls hW hS hl h
                                  unfold fX12_shift_l150 fX12_shift_b150 at h
                                  refine lv_iload hx hb dX12_shift_150 (lv_at hl 4 rfl) ?_
                                  refine lv_iload hx hb dX12_shift_152 (lv_at hl 3 rfl) ?_
                                  refine lv_icmp_ge (tgt := 185) hx hb dX12_shift_154 (by decide) (fun c21 => ?_) (fun c21 => ?_)
                                  · have h := sh_t c21 h
                                    refine lv_iload hx hb dX12_shift_185 (lv_at hl 3 rfl) ?_
                                    exact tb_iretE h hx hb hr hS hW hlk dX12_shift_187
                                  · have h := sh_f c21 h
                                    refine lv_aload_n hx hb dX12_shift_157 rfl (lv_at hl 0 rfl) ?_
                                    refine gtX12_137 hx hb hts hown hK hW cz12 dX12_shift_158 ?_
                                    refine lv_bipush (v := (60 : Int32)) hx hb dX12_shift_161 (by decide) ?_
                                    refine lv_iload_n hx hb dX12_shift_163 rfl (lv_at hl 1 rfl) ?_
                                    refine lv_imul hx hb dX12_shift_164 ?_
                                    refine lv_iload hx hb dX12_shift_165 (lv_at hl 2 rfl) ?_
                                    refine lv_iadd hx hb dX12_shift_167 ?_
                                    refine lv_iload hx hb dX12_shift_168 (lv_at hl 4 rfl) ?_
                                    refine lv_iadd hx hb dX12_shift_170 ?_
                                    refine lv_aload_n hx hb dX12_shift_171 rfl (lv_at hl 0 rfl) ?_
                                    refine gtX12_140 hx hb hts hown hK hW cz12 dX12_shift_172 ?_
                                    refine lv_iload hx hb dX12_shift_175 (lv_at hl 4 rfl) ?_
                                    obtain ⟨hj, h⟩ := ix_a h
                                    refine al92 hx hb hK hW cz92 hj dX12_shift_177 ?_
                                    refine lv_topl (fun v22 ev22 => ?_)
                                    have h := nm_a ev22 h
                                    obtain ⟨hj, h⟩ := ix_a h
                                    refine as91 hx hb hK hW hS cz91 hj dX12_shift_178 (fun H locs hW hS => ?_)
                                    obtain ⟨M23, eM23⟩ : ∃ y, y = msL M20 9100 0 (((((60 : Int32) * x3) + x4) + i19).toNatClampNeg) v22 := ⟨_, rfl⟩
                                    have h := nm_a eM23 h
                                    rw [← eM23] at hW
                                    obtain ⟨v24, ev24⟩ : ∃ y : Int32, y = i19 + (1 : Int32) := ⟨_, rfl⟩
                                    have h := nm_a ev24 h
                                    refine lv_iinc (v := v24) (lv' := [(6, .int v24), (0, .ref (ad 12 0)), (3, .int x3), (4, .int x4), (5, .int x5)]) hx hb dX12_shift_179 hl (k := 4) rfl (by rw [ev24]; rfl) (by decide) rfl (fun ls hl => ?_)
                                    refine lv_goto (tgt := 150) hx hb dX12_shift_182 (by decide) ?_
                                    exact ih18 v24 M23 _ _ _ hW hS (lv_sub hl [1, 2, 3, 4, 0] rfl) h
                              exact L18 FU (0 : Int32) M16 _ _ _ hW hS (lv_sub hl [1, 4, 5, 6, 0] rfl) h
                            · have h := sh_f c17 h
                              refine lv_aload_n hx hb dX12_shift_120 rfl (lv_at hl 0 rfl) ?_
                              refine gtX12_140 hx hb hts hown hK hW cz12 dX12_shift_121 ?_
                              refine lv_iload hx hb dX12_shift_124 (lv_at hl 6 rfl) ?_
                              refine lv_aload_n hx hb dX12_shift_126 rfl (lv_at hl 0 rfl) ?_
                              refine gtX12_137 hx hb hts hown hK hW cz12 dX12_shift_127 ?_
                              refine lv_bipush (v := (60 : Int32)) hx hb dX12_shift_130 (by decide) ?_
                              refine lv_iload_n hx hb dX12_shift_132 rfl (lv_at hl 1 rfl) ?_
                              refine lv_imul hx hb dX12_shift_133 ?_
                              refine lv_iload_n hx hb dX12_shift_134 rfl (lv_at hl 2 rfl) ?_
                              refine lv_iadd hx hb dX12_shift_135 ?_
                              refine lv_iload hx hb dX12_shift_136 (lv_at hl 6 rfl) ?_
                              refine lv_iadd hx hb dX12_shift_138 ?_
                              obtain ⟨hj, h⟩ := ix_a h
                              refine al91 hx hb hK hW cz91 hj dX12_shift_139 ?_
                              refine lv_topl (fun v25 ev25 => ?_)
                              have h := nm_a ev25 h
                              obtain ⟨hj, h⟩ := ix_a h
                              refine as92 hx hb hK hW hS cz92 hj dX12_shift_140 (fun H locs hW hS => ?_)
                              obtain ⟨M26, eM26⟩ : ∃ y, y = msL M16 9200 0 i15.toNatClampNeg v25 := ⟨_, rfl⟩
                              have h := nm_a eM26 h
                              rw [← eM26] at hW
                              obtain ⟨v27, ev27⟩ : ∃ y : Int32, y = i15 + (1 : Int32) := ⟨_, rfl⟩
                              have h := nm_a ev27 h
                              refine lv_iinc (v := v27) (lv' := [(6, .int v27), (0, .ref (ad 12 0)), (1, .int x1), (2, .int x2), (3, .int x3), (4, .int x4), (5, .int x5)]) hx hb dX12_shift_141 hl (k := 6) rfl (by rw [ev27]; rfl) (by decide) rfl (fun ls hl => ?_)
                              refine lv_goto (tgt := 113) hx hb dX12_shift_144 (by decide) ?_
                              exact ih14 v27 M26 _ _ _ hW hS (lv_sub hl [1, 2, 3, 4, 5, 6, 0] rfl) h
                        exact L14 FU (0 : Int32) M0 _ _ _ hW hS (lv_sub hl [1, 2, 3, 4, 5, 6, 0] rfl) h
                      · have h := sh_f c13 h
                        refine lv_bipush (v := (-13 : Int32)) hx hb dX12_shift_107 (by decide) ?_
                        exact tb_iretE h hx hb hr hS hW hlk dX12_shift_109
            · have h := sh_f c8 h
              refine lv_bipush (v := (-12 : Int32)) hx hb dX12_shift_63 (by decide) ?_
              exact tb_iretE h hx hb hr hS hW hlk dX12_shift_65
        · have h := sh_t c6 h
          refine lv_bipush (v := (-11 : Int32)) hx hb dX12_shift_36 (by decide) ?_
          exact tb_iretE h hx hb hr hS hW hlk dX12_shift_38
    · have h := sh_t c4 h
      refine lv_iconst (v := (-1 : Int32)) hx hb dX12_shift_14 (by decide) ?_
      exact tb_iretE h hx hb hr hS hW hlk dX12_shift_15
def fX12_taken (x1 : Int32) (x2 : Int32) (M0 : Mem) : Option (Int32 × Mem) :=
  nm (fX12_isShelf x1) fun b1 => if b1 = 0 then (some ((-1 : Int32), M0)) else (nm (fX12_in x2 (0 : Int32) (6 : Int32)) fun b3 => if b3 = 0 then (some ((-1 : Int32), M0)) else (ix x1 6 <| if (mgI M0 8900 0 x1.toNatClampNeg) = (-1 : Int32) then (some ((-11 : Int32), M0)) else (ix x1 6 <| if (mgI M0 8900 0 x1.toNatClampNeg) < 0 then (some ((-12 : Int32), M0)) else (ix x1 6 <| bE (fX12_kindNow (mgI M0 8900 0 x1.toNatClampNeg) M0) fun b7 M8 => nm (fX12_isUnder b7 x2) fun b9 => if b9 = 0 then (some ((-12 : Int32), M8)) else (ix x1 6 <| bE (fX12_kindNow (mgI M8 8900 0 x1.toNatClampNeg) M8) fun b11 M12 => some (b11, M12))))))
set_option maxHeartbeats 4000000 in
set_option maxRecDepth 100000 in
theorem mX12_taken {l : Launch} {D : va_G} {cy : Nat → ClassId} {A : Nat → Prop} {Z : State → Heap → Prop} {ad : Nat → Nat → Nat} (hZk : ZOK A Z) (x1 : Int32) (x2 : Int32) (M0 : Mem) (r : Int32) (M' : Mem) (h : fX12_taken x1 x2 M0 = some (r, M')) : Met l yX12_taken (wt yX12_taken cX12_taken 3 (some .int)) (rm 4 87) (CPre D cy A Z cnM ad M0 [.ref (ad 12 0), .int x1, .int x2]) (QI D cy A cnM ad r M') 0 0 A := by
  refine tb_start [.ref (ad 12 0), .int x1, .int x2] [(0, .ref (ad 12 0)), (1, .int x1), (2, .int x2)] RX12 rfl (by decide +kernel) (Nat.le_of_ble_eq_true rfl) rfl (fun p e s m args below meth c hx hb hr hml hown hts hlk hW hK hZ ls hl => ?_)
  have hS : va_S A s.heap s.heap [] := va_S.rf
  unfold fX12_taken at h
  refine lv_iload_n hx hb dX12_taken_0 rfl (lv_at hl 1 rfl) ?_
  refine tb_cSZ hZk hx hb hml hown hts hK hZ hW hS [.int x1] (mX12_isShelf (l := l) hZk x1 M0 (fX12_isShelf x1) rfl) pmX12_isShelf tw1427 ⟨Nat.le_of_ble_eq_true rfl, Nat.le_of_ble_eq_true rfl⟩ rfl hl.1 (Nat.le_of_ble_eq_true rfl) ⟨Nat.le_refl _, Nat.le_refl _⟩ rfl dX12_taken_1 (fun H locs hW hS hzz => ?_)
  refine lv_topi (fun b1 eb1 => ?_)
  have h := nm_a eb1 h
  have hzb1 : b1 = 0 ∨ b1 = 1 := by rw [eb1]; exact hzz
  refine lv_if_eq (tgt := 17) hx hb dX12_taken_4 (by decide) (fun c2 => ?_) (fun c2 => ?_)
  · have h := sh_t c2 h
    refine lv_iconst (v := (-1 : Int32)) hx hb dX12_taken_17 (by decide) ?_
    exact tb_iretE h hx hb hr hS hW hlk dX12_taken_18
  · have h := sh_f c2 h
    refine lv_iload_n hx hb dX12_taken_7 rfl (lv_at hl 2 rfl) ?_
    refine lv_iconst (v := (0 : Int32)) hx hb dX12_taken_8 (by decide) ?_
    refine lv_bipush (v := (6 : Int32)) hx hb dX12_taken_9 (by decide) ?_
    refine tb_cSZ hZk hx hb hml hown hts hK hZ hW hS [.int x2, .int (0 : Int32), .int (6 : Int32)] (mX12_in (l := l) hZk x2 (0 : Int32) (6 : Int32) M0 (fX12_in x2 (0 : Int32) (6 : Int32)) rfl) pmX12_in tw1401 ⟨Nat.le_of_ble_eq_true rfl, Nat.le_of_ble_eq_true rfl⟩ rfl hl.1 (Nat.le_of_ble_eq_true rfl) ⟨Nat.le_refl _, Nat.le_refl _⟩ rfl dX12_taken_11 (fun H locs hW hS hzz => ?_)
    refine lv_topi (fun b3 eb3 => ?_)
    have h := nm_a eb3 h
    have hzb3 : b3 = 0 ∨ b3 = 1 := by rw [eb3]; exact hzz
    refine lv_if_ne (tgt := 19) hx hb dX12_taken_14 (by decide) (fun c4 => ?_) (fun c4 => ?_)
    · have h := sh_f c4 h
      refine lv_aload_n hx hb dX12_taken_19 rfl (lv_at hl 0 rfl) ?_
      refine gtX12_131 hx hb hts hown hK hW cz12 dX12_taken_20 ?_
      refine lv_iload_n hx hb dX12_taken_23 rfl (lv_at hl 1 rfl) ?_
      obtain ⟨hj, h⟩ := ix_a h
      refine al89 hx hb hK hW cz89 hj dX12_taken_24 ?_
      refine lv_iconst (v := (-1 : Int32)) hx hb dX12_taken_25 (by decide) ?_
      refine lv_icmp_ne (tgt := 32) hx hb dX12_taken_26 (by decide) (fun c5 => ?_) (fun c5 => ?_)
      · have h := sh_f c5 h
        refine lv_aload_n hx hb dX12_taken_32 rfl (lv_at hl 0 rfl) ?_
        refine gtX12_131 hx hb hts hown hK hW cz12 dX12_taken_33 ?_
        refine lv_iload_n hx hb dX12_taken_36 rfl (lv_at hl 1 rfl) ?_
        obtain ⟨hj, h⟩ := ix_a h
        refine al89 hx hb hK hW cz89 hj dX12_taken_37 ?_
        refine lv_if_lt (tgt := 71) hx hb dX12_taken_38 (by decide) (fun c6 => ?_) (fun c6 => ?_)
        · have h := sh_t c6 h
          refine lv_bipush (v := (-12 : Int32)) hx hb dX12_taken_71 (by decide) ?_
          exact tb_iretE h hx hb hr hS hW hlk dX12_taken_73
        · have h := sh_f c6 h
          refine lv_aload_n hx hb dX12_taken_41 rfl (lv_at hl 0 rfl) ?_
          refine lv_aload_n hx hb dX12_taken_42 rfl (lv_at hl 0 rfl) ?_
          refine gtX12_131 hx hb hts hown hK hW cz12 dX12_taken_43 ?_
          refine lv_iload_n hx hb dX12_taken_46 rfl (lv_at hl 1 rfl) ?_
          obtain ⟨hj, h⟩ := ix_a h
          refine al89 hx hb hK hW cz89 hj dX12_taken_47 ?_
          obtain ⟨b7, M8, hcb7, h⟩ := bE_a h
          refine tb_cVI hZk hx hb hml hown hts hK hZ hW hS [.int (mgI M0 8900 0 x1.toNatClampNeg)] (mX12_kindNow (l := l) hZk (mgI M0 8900 0 x1.toNatClampNeg) M0 b7 M8 hcb7) pmX12_kindNow tw1435 (Wd.recv hK hW (t := 12) (by decide) cz12 (C := RX12) (T := TX12) (N := 58) rfl) ⟨Nat.le_of_ble_eq_true rfl, Nat.le_of_ble_eq_true rfl⟩ rfl hl.1 (Nat.le_of_ble_eq_true rfl) ⟨Nat.le_refl _, Nat.le_refl _⟩ rfl dX12_taken_48 (fun H locs hW hS => ?_)
          refine lv_iload_n hx hb dX12_taken_51 rfl (lv_at hl 2 rfl) ?_
          refine tb_cSZ hZk hx hb hml hown hts hK hZ hW hS [.int b7, .int x2] (mX12_isUnder (l := l) hZk b7 x2 M8 (fX12_isUnder b7 x2) rfl) pmX12_isUnder tw1711 ⟨Nat.le_of_ble_eq_true rfl, Nat.le_of_ble_eq_true rfl⟩ rfl hl.1 (Nat.le_of_ble_eq_true rfl) ⟨Nat.le_refl _, Nat.le_refl _⟩ rfl dX12_taken_52 (fun H locs hW hS hzz => ?_)
          refine lv_topi (fun b9 eb9 => ?_)
          have h := nm_a eb9 h
          have hzb9 : b9 = 0 ∨ b9 = 1 := by rw [eb9]; exact hzz
          refine lv_if_eq (tgt := 71) hx hb dX12_taken_55 (by decide) (fun c10 => ?_) (fun c10 => ?_)
          · have h := sh_t c10 h
            refine lv_bipush (v := (-12 : Int32)) hx hb dX12_taken_71 (by decide) ?_
            exact tb_iretE h hx hb hr hS hW hlk dX12_taken_73
          · have h := sh_f c10 h
            refine lv_aload_n hx hb dX12_taken_58 rfl (lv_at hl 0 rfl) ?_
            refine lv_aload_n hx hb dX12_taken_59 rfl (lv_at hl 0 rfl) ?_
            refine gtX12_131 hx hb hts hown hK hW cz12 dX12_taken_60 ?_
            refine lv_iload_n hx hb dX12_taken_63 rfl (lv_at hl 1 rfl) ?_
            obtain ⟨hj, h⟩ := ix_a h
            refine al89 hx hb hK hW cz89 hj dX12_taken_64 ?_
            obtain ⟨b11, M12, hcb11, h⟩ := bE_a h
            refine tb_cVI hZk hx hb hml hown hts hK hZ hW hS [.int (mgI M8 8900 0 x1.toNatClampNeg)] (mX12_kindNow (l := l) hZk (mgI M8 8900 0 x1.toNatClampNeg) M8 b11 M12 hcb11) pmX12_kindNow tw1435 (Wd.recv hK hW (t := 12) (by decide) cz12 (C := RX12) (T := TX12) (N := 58) rfl) ⟨Nat.le_of_ble_eq_true rfl, Nat.le_of_ble_eq_true rfl⟩ rfl hl.1 (Nat.le_of_ble_eq_true rfl) ⟨Nat.le_refl _, Nat.le_refl _⟩ rfl dX12_taken_65 (fun H locs hW hS => ?_)
            refine lv_goto (tgt := 73) hx hb dX12_taken_68 (by decide) ?_
            exact tb_iretE h hx hb hr hS hW hlk dX12_taken_73
      · have h := sh_t c5 h
        refine lv_bipush (v := (-11 : Int32)) hx hb dX12_taken_29 (by decide) ?_
        exact tb_iretE h hx hb hr hS hW hlk dX12_taken_31
    · have h := sh_t c4 h
      refine lv_iconst (v := (-1 : Int32)) hx hb dX12_taken_17 (by decide) ?_
      exact tb_iretE h hx hb hr hS hW hlk dX12_taken_18
