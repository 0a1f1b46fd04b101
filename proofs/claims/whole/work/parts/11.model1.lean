def fX12_findCounts_b3 (x1 : Int64) (x3 : Int64) (k1 : Int32 → Mem → Option (Unit × Mem)) (i2 : Int32) (M3 : Mem) : Option (Unit × Mem) :=
  if (mgI M3 1202 0 0) ≤ i2 then (some ((), M3)) else (ix i2 64 <| if (mgI M3 5000 0 i2.toNatClampNeg) = (1 : Int32) then (ix i2 64 <| nm ((20 : Int32) * (mgI M3 5300 0 i2.toNatClampNeg)) fun v26 => ix i2 64 <| nm (msI M3 6700 0 i2.toNatClampNeg v26) fun M27 => ix i2 64 <| nm ((1000 : Int32) * (mgI M27 5200 0 i2.toNatClampNeg)) fun v28 => ix i2 64 <| nm (msI M27 6800 0 i2.toNatClampNeg v28) fun M29 => ix i2 64 <| nm (msI M29 6900 0 i2.toNatClampNeg (vp_nar .boolean (1 : Int32))) fun M30 => if (lg_cmp ((x1 >>> (i2.toInt64 &&& 63)) &&& (1 : Int64)) (1 : Int64)) = 0 then (ix i2 64 <| nm (msI M30 6700 0 i2.toNatClampNeg (0 : Int32)) fun M47 => nm (i2 + (1 : Int32)) fun v48 => k1 v48 M47) else (ix i2 64 <| if (mgI M30 5400 0 i2.toNatClampNeg) < 0 then (nm (i2 + (1 : Int32)) fun v33 => k1 v33 M30) else (if (lg_cmp ((x3 >>> (i2.toInt64 &&& 63)) &&& (1 : Int64)) (1 : Int64)) = 0 then (nm (i2 + (1 : Int32)) fun v46 => k1 v46 M30) else (ix i2 64 <| nm (mgI M30 5500 0 i2.toNatClampNeg) fun v35 => if v35 = (1 : Int32) then (ix i2 64 <| nm (msI M30 6700 0 i2.toNatClampNeg (0 : Int32)) fun M44 => nm (i2 + (1 : Int32)) fun v45 => k1 v45 M44) else (if v35 = 0 then (ix i2 64 <| ix i2 64 <| nm (((((mgI M30 6700 0 i2.toNatClampNeg).toInt64) * (((10 : Int32) - (mgI M30 5600 0 i2.toNatClampNeg)).toInt64)) / (10 : Int64)).toInt32) fun v41 => ix i2 64 <| nm (msI M30 6700 0 i2.toNatClampNeg v41) fun M42 => nm (i2 + (1 : Int32)) fun v43 => k1 v43 M42) else (ix i2 64 <| nm ((mgI M30 6700 0 i2.toNatClampNeg) / (2 : Int32)) fun v38 => ix i2 64 <| nm (msI M30 6700 0 i2.toNatClampNeg v38) fun M39 => nm (i2 + (1 : Int32)) fun v40 => k1 v40 M39)))))) else (bE (fX12_findOf i2 M3) fun u6 M7 => if (lg_cmp ((x1 >>> (i2.toInt64 &&& 63)) &&& (1 : Int64)) (1 : Int64)) = 0 then (ix i2 64 <| nm (msI M7 6700 0 i2.toNatClampNeg (0 : Int32)) fun M24 => nm (i2 + (1 : Int32)) fun v25 => k1 v25 M24) else (ix i2 64 <| if (mgI M7 5400 0 i2.toNatClampNeg) < 0 then (nm (i2 + (1 : Int32)) fun v10 => k1 v10 M7) else (if (lg_cmp ((x3 >>> (i2.toInt64 &&& 63)) &&& (1 : Int64)) (1 : Int64)) = 0 then (nm (i2 + (1 : Int32)) fun v23 => k1 v23 M7) else (ix i2 64 <| nm (mgI M7 5500 0 i2.toNatClampNeg) fun v12 => if v12 = (1 : Int32) then (ix i2 64 <| nm (msI M7 6700 0 i2.toNatClampNeg (0 : Int32)) fun M21 => nm (i2 + (1 : Int32)) fun v22 => k1 v22 M21) else (if v12 = 0 then (ix i2 64 <| ix i2 64 <| nm (((((mgI M7 6700 0 i2.toNatClampNeg).toInt64) * (((10 : Int32) - (mgI M7 5600 0 i2.toNatClampNeg)).toInt64)) / (10 : Int64)).toInt32) fun v18 => ix i2 64 <| nm (msI M7 6700 0 i2.toNatClampNeg v18) fun M19 => nm (i2 + (1 : Int32)) fun v20 => k1 v20 M19) else (ix i2 64 <| nm ((mgI M7 6700 0 i2.toNatClampNeg) / (2 : Int32)) fun v15 => ix i2 64 <| nm (msI M7 6700 0 i2.toNatClampNeg v15) fun M16 => nm (i2 + (1 : Int32)) fun v17 => k1 v17 M16)))))))
def fX12_findCounts_l3 (x1 : Int64) (x3 : Int64) : Nat → Int32 → Mem → Option (Unit × Mem)
  | 0, _, _ => none
  | n + 1, i2, M3 => fX12_findCounts_b3 x1 x3 (fX12_findCounts_l3 x1 x3 n) i2 M3
def fX12_findCounts (x1 : Int64) (x3 : Int64) (M0 : Mem) : Option (Unit × Mem) :=
  fX12_findCounts_l3 x1 x3 FU (0 : Int32) M0
set_option maxHeartbeats 4000000 in
set_option maxRecDepth 100000 in
theorem mX12_findCounts {l : Launch} {D : va_G} {cy : Nat → ClassId} {A : Nat → Prop} {Z : State → Heap → Prop} {ad : Nat → Nat → Nat} (hZk : ZOK A Z) (x1 : Int64) (x3 : Int64) (M0 : Mem) (r : Unit) (M' : Mem) (h : fX12_findCounts x1 x3 M0 = some (r, M')) : Met l yX12_findCounts (wt yX12_findCounts cX12_findCounts 8 none) (rm 2 53) (CPre D cy A Z cnM ad M0 [.ref (ad 12 0), .long x1, .long x3]) (QV D cy A cnM ad r M') 0 0 A := by
  refine tb_start [.ref (ad 12 0), .long x1, .long x3] [(0, .ref (ad 12 0)), (1, .long x1), (3, .long x3)] RX12 rfl (by decide +kernel) (Nat.le_of_ble_eq_true rfl) rfl (fun p e s m args below meth c hx hb hr hml hown hts hlk hW hK hZ ls hl => ?_)
  have hS : va_S A s.heap s.heap [] := va_S.rf
  unfold fX12_findCounts at h
  refine lv_iconst (v := (0 : Int32)) hx hb dX12_findCounts_0 (by decide) ?_
  refine lv_istore (lv' := [(5, .int (0 : Int32)), (0, .ref (ad 12 0)), (1, .long x1), (3, .long x3)]) hx hb dX12_findCounts_1 hl (by decide) rfl (fun ls hl => ?_)
  have L1 : ∀ (n1 : Nat) (i2 : Int32) (M3 : Mem) (H : Heap) (locs : List Loc) (ls : Array Slot), Wd D cy A cnM ad M3 H → va_S A s.heap H locs → lv_has ls 8 [(0, .ref (ad 12 0)), (1, .long x1), (3, .long x3), (5, .int i2)] → fX12_findCounts_l3 x1 x3 n1 i2 M3 = some (r, M') → W p l e (rm 2 53) s m args below meth c H locs 0 0 (MQ below (QV D cy A cnM ad r M') args s 0 0 A) (F0 m 3 ls []) := by
    intro n1
    induction n1 with
    | zero => intro i2 M3 H locs ls hW hS hl h; cases h
    | succ n1 ih1 =>
      intro i2 M3 H locs ls hW hS hl h
      unfold fX12_findCounts_l3 fX12_findCounts_b3 at h
      refine lv_iload hx hb dX12_findCounts_3 (lv_at hl 3 rfl) ?_
      refine lv_aload_n hx hb dX12_findCounts_5 rfl (lv_at hl 0 rfl) ?_
      refine gtX12_147 hx hb hts hown hK hW cz12 dX12_findCounts_6 ?_
      refine lv_icmp_ge (tgt := 205) hx hb dX12_findCounts_9 (by decide) (fun c4 => ?_) (fun c4 => ?_)
      · have h := sh_t c4 h
        exact tb_vretE h hx hb hr hS hW hlk dX12_findCounts_205
      · have h := sh_f c4 h
        refine lv_aload_n hx hb dX12_findCounts_12 rfl (lv_at hl 0 rfl) ?_
        refine gtX12_7 hx hb hts hown hK hW cz12 dX12_findCounts_13 ?_
        refine lv_iload hx hb dX12_findCounts_16 (lv_at hl 3 rfl) ?_
        obtain ⟨hj, h⟩ := ix_a h
        refine al50 hx hb hK hW cz50 hj dX12_findCounts_18 ?_
        refine lv_iconst (v := (1 : Int32)) hx hb dX12_findCounts_19 (by decide) ?_
        refine lv_icmp_ne (tgt := 69) hx hb dX12_findCounts_20 (by decide) (fun c5 => ?_) (fun c5 => ?_)
        · have h := sh_f c5 h
          refine lv_aload_n hx hb dX12_findCounts_69 rfl (lv_at hl 0 rfl) ?_
          refine lv_iload hx hb dX12_findCounts_70 (lv_at hl 3 rfl) ?_
          obtain ⟨u6, M7, hcu6, h⟩ := bE_a h
          refine tb_cVV hZk hx hb hml hown hts hK hZ hW hS [.int i2] (mX12_findOf (l := l) hZk i2 M3 u6 M7 hcu6) pmX12_findOf tw1459 (Wd.recv hK hW (t := 12) (by decide) cz12 (C := RX12) (T := TX12) (N := 58) rfl) ⟨Nat.le_of_ble_eq_true rfl, Nat.le_of_ble_eq_true rfl⟩ rfl hl.1 (Nat.le_of_ble_eq_true rfl) ⟨Nat.le_refl _, Nat.le_refl _⟩ rfl dX12_findCounts_72 (fun H locs hW hS => ?_)
          refine lv_lload_n hx hb dX12_findCounts_75 rfl (lv_at hl 1 rfl) ?_
          refine lv_iload hx hb dX12_findCounts_76 (lv_at hl 3 rfl) ?_
          refine lv_lshr hx hb dX12_findCounts_78 rfl ?_
          refine lv_lconst (v := (1 : Int64)) hx hb dX12_findCounts_79 (by decide) ?_
          refine lv_land hx hb dX12_findCounts_80 ?_
          refine lv_lconst (v := (1 : Int64)) hx hb dX12_findCounts_81 (by decide) ?_
          refine W.lcmp hx hb dX12_findCounts_82 ?_
          refine lv_if_ne (tgt := 90) hx hb dX12_findCounts_83 (by decide) (fun c8 => ?_) (fun c8 => ?_)
          · have h := sh_f c8 h
            refine lv_iconst (v := (0 : Int32)) hx hb dX12_findCounts_90 (by decide) ?_
            refine lv_istore (lv' := [(6, .int (0 : Int32)), (0, .ref (ad 12 0)), (1, .long x1), (3, .long x3), (5, .int i2)]) hx hb dX12_findCounts_91 hl (by decide) rfl (fun ls hl => ?_)
            refine lv_iload hx hb dX12_findCounts_93 (lv_at hl 0 rfl) ?_
            refine lv_if_ne (tgt := 122) hx hb dX12_findCounts_95 (by decide) (fun hc => absurd hc (by decide)) (fun _ => ?_)
            refine lv_aload_n hx hb dX12_findCounts_98 rfl (lv_at hl 1 rfl) ?_
            refine gtX12_22 hx hb hts hown hK hW cz12 dX12_findCounts_99 ?_
            refine lv_iload hx hb dX12_findCounts_102 (lv_at hl 4 rfl) ?_
            obtain ⟨hj, h⟩ := ix_a h
            refine al54 hx hb hK hW cz54 hj dX12_findCounts_104 ?_
            refine lv_if_lt (tgt := 199) hx hb dX12_findCounts_105 (by decide) (fun c9 => ?_) (fun c9 => ?_)
            · have h := sh_t c9 h
              obtain ⟨v10, ev10⟩ : ∃ y : Int32, y = i2 + (1 : Int32) := ⟨_, rfl⟩
              have h := nm_a ev10 h
              refine lv_iinc (v := v10) (lv' := [(5, .int v10), (6, .int (0 : Int32)), (0, .ref (ad 12 0)), (1, .long x1), (3, .long x3)]) hx hb dX12_findCounts_199 hl (k := 4) rfl (by rw [ev10]; rfl) (by decide) rfl (fun ls hl => ?_)
              refine lv_goto (tgt := 3) hx hb dX12_findCounts_202 (by decide) ?_
              exact ih1 v10 M7 _ _ _ hW hS (lv_sub hl [2, 3, 4, 0] rfl) h
            · have h := sh_f c9 h
              refine lv_lload_n hx hb dX12_findCounts_108 rfl (lv_at hl 3 rfl) ?_
              refine lv_iload hx hb dX12_findCounts_109 (lv_at hl 4 rfl) ?_
              refine lv_lshr hx hb dX12_findCounts_111 rfl ?_
              refine lv_lconst (v := (1 : Int64)) hx hb dX12_findCounts_112 (by decide) ?_
              refine lv_land hx hb dX12_findCounts_113 ?_
              refine lv_lconst (v := (1 : Int64)) hx hb dX12_findCounts_114 (by decide) ?_
              refine W.lcmp hx hb dX12_findCounts_115 ?_
              refine lv_if_ne (tgt := 122) hx hb dX12_findCounts_116 (by decide) (fun c11 => ?_) (fun c11 => ?_)
              · have h := sh_f c11 h
                refine lv_iload hx hb dX12_findCounts_122 (lv_at hl 0 rfl) ?_
                refine lv_if_eq (tgt := 131) hx hb dX12_findCounts_124 (by decide) (fun _ => ?_) (fun hc => absurd hc (by decide))
                refine lv_aload_n hx hb dX12_findCounts_131 rfl (lv_at hl 1 rfl) ?_
                refine gtX12_25 hx hb hts hown hK hW cz12 dX12_findCounts_132 ?_
                refine lv_iload hx hb dX12_findCounts_135 (lv_at hl 4 rfl) ?_
                obtain ⟨hj, h⟩ := ix_a h
                refine al55 hx hb hK hW cz55 hj dX12_findCounts_137 ?_
                refine lv_topi (fun v12 ev12 => ?_)
                have h := nm_a ev12 h
                refine lv_istore (lv' := [(7, .int v12), (6, .int (0 : Int32)), (0, .ref (ad 12 0)), (1, .long x1), (3, .long x3), (5, .int i2)]) hx hb dX12_findCounts_138 hl (by decide) rfl (fun ls hl => ?_)
                refine lv_aload_n hx hb dX12_findCounts_140 rfl (lv_at hl 2 rfl) ?_
                refine gtX12_63 hx hb hts hown hK hW cz12 dX12_findCounts_141 ?_
                refine lv_iload hx hb dX12_findCounts_144 (lv_at hl 5 rfl) ?_
                refine lv_iload hx hb dX12_findCounts_146 (lv_at hl 0 rfl) ?_
                refine lv_iconst (v := (1 : Int32)) hx hb dX12_findCounts_148 (by decide) ?_
                refine lv_icmp_ne (tgt := 156) hx hb dX12_findCounts_149 (by decide) (fun c13 => ?_) (fun c13 => ?_)
                · have h := sh_f c13 h
                  refine lv_iload hx hb dX12_findCounts_156 (lv_at hl 0 rfl) ?_
                  refine lv_if_ne (tgt := 189) hx hb dX12_findCounts_158 (by decide) (fun c14 => ?_) (fun c14 => ?_)
                  · have h := sh_f c14 h
                    refine lv_aload_n hx hb dX12_findCounts_189 rfl (lv_at hl 2 rfl) ?_
                    refine gtX12_63 hx hb hts hown hK hW cz12 dX12_findCounts_190 ?_
                    refine lv_iload hx hb dX12_findCounts_193 (lv_at hl 5 rfl) ?_
                    obtain ⟨hj, h⟩ := ix_a h
                    refine al67 hx hb hK hW cz67 hj dX12_findCounts_195 ?_
                    refine lv_iconst (v := (2 : Int32)) hx hb dX12_findCounts_196 (by decide) ?_
                    refine lv_idiv hx hb dX12_findCounts_197 (by decide) ?_
                    refine lv_topi (fun v15 ev15 => ?_)
                    have h := nm_a ev15 h
                    obtain ⟨hj, h⟩ := ix_a h
                    refine as67 hx hb hK hW hS cz67 hj dX12_findCounts_198 (fun H locs hW hS => ?_)
                    obtain ⟨M16, eM16⟩ : ∃ y, y = msI M7 6700 0 i2.toNatClampNeg v15 := ⟨_, rfl⟩
                    have h := nm_a eM16 h
                    rw [← eM16] at hW
                    obtain ⟨v17, ev17⟩ : ∃ y : Int32, y = i2 + (1 : Int32) := ⟨_, rfl⟩
                    have h := nm_a ev17 h
                    refine lv_iinc (v := v17) (lv' := [(5, .int v17), (7, .int v12), (6, .int (0 : Int32)), (0, .ref (ad 12 0)), (1, .long x1), (3, .long x3)]) hx hb dX12_findCounts_199 hl (k := 5) rfl (by rw [ev17]; rfl) (by decide) rfl (fun ls hl => ?_)
                    refine lv_goto (tgt := 3) hx hb dX12_findCounts_202 (by decide) ?_
                    exact ih1 v17 M16 _ _ _ hW hS (lv_sub hl [3, 4, 5, 0] rfl) h
                  · have h := sh_t c14 h
                    refine lv_aload_n hx hb dX12_findCounts_161 rfl (lv_at hl 2 rfl) ?_
                    refine gtX12_63 hx hb hts hown hK hW cz12 dX12_findCounts_162 ?_
                    refine lv_iload hx hb dX12_findCounts_165 (lv_at hl 5 rfl) ?_
                    obtain ⟨hj, h⟩ := ix_a h
                    refine al67 hx hb hK hW cz67 hj dX12_findCounts_167 ?_
                    refine lv_i2l hx hb dX12_findCounts_168 rfl ?_
                    refine lv_bipush (v := (10 : Int32)) hx hb dX12_findCounts_169 (by decide) ?_
                    refine lv_aload_n hx hb dX12_findCounts_171 rfl (lv_at hl 2 rfl) ?_
                    refine gtX12_28 hx hb hts hown hK hW cz12 dX12_findCounts_172 ?_
                    refine lv_iload hx hb dX12_findCounts_175 (lv_at hl 5 rfl) ?_
                    obtain ⟨hj, h⟩ := ix_a h
                    refine al56 hx hb hK hW cz56 hj dX12_findCounts_177 ?_
                    refine lv_isub hx hb dX12_findCounts_178 ?_
                    refine lv_i2l hx hb dX12_findCounts_179 rfl ?_
                    refine lv_lmul hx hb dX12_findCounts_180 ?_
                    refine lv_ldc2 hx hb hown (hts _ tw1467) dX12_findCounts_181 ?_
                    refine lv_ldiv hx hb dX12_findCounts_184 (by decide) ?_
                    refine lv_l2i hx hb dX12_findCounts_185 rfl ?_
                    refine lv_goto (tgt := 198) hx hb dX12_findCounts_186 (by decide) ?_
                    refine lv_topi (fun v18 ev18 => ?_)
                    have h := nm_a ev18 h
                    obtain ⟨hj, h⟩ := ix_a h
                    refine as67 hx hb hK hW hS cz67 hj dX12_findCounts_198 (fun H locs hW hS => ?_)
                    obtain ⟨M19, eM19⟩ : ∃ y, y = msI M7 6700 0 i2.toNatClampNeg v18 := ⟨_, rfl⟩
                    have h := nm_a eM19 h
                    rw [← eM19] at hW
                    obtain ⟨v20, ev20⟩ : ∃ y : Int32, y = i2 + (1 : Int32) := ⟨_, rfl⟩
                    have h := nm_a ev20 h
                    refine lv_iinc (v := v20) (lv' := [(5, .int v20), (7, .int v12), (6, .int (0 : Int32)), (0, .ref (ad 12 0)), (1, .long x1), (3, .long x3)]) hx hb dX12_findCounts_199 hl (k := 5) rfl (by rw [ev20]; rfl) (by decide) rfl (fun ls hl => ?_)
                    refine lv_goto (tgt := 3) hx hb dX12_findCounts_202 (by decide) ?_
                    exact ih1 v20 M19 _ _ _ hW hS (lv_sub hl [3, 4, 5, 0] rfl) h
                · have h := sh_t c13 h
                  refine lv_iconst (v := (0 : Int32)) hx hb dX12_findCounts_152 (by decide) ?_
                  refine lv_goto (tgt := 198) hx hb dX12_findCounts_153 (by decide) ?_
                  obtain ⟨hj, h⟩ := ix_a h
                  refine as67 hx hb hK hW hS cz67 hj dX12_findCounts_198 (fun H locs hW hS => ?_)
                  obtain ⟨M21, eM21⟩ : ∃ y, y = msI M7 6700 0 i2.toNatClampNeg (0 : Int32) := ⟨_, rfl⟩
                  have h := nm_a eM21 h
                  rw [← eM21] at hW
                  obtain ⟨v22, ev22⟩ : ∃ y : Int32, y = i2 + (1 : Int32) := ⟨_, rfl⟩
                  have h := nm_a ev22 h
                  refine lv_iinc (v := v22) (lv' := [(5, .int v22), (7, .int v12), (6, .int (0 : Int32)), (0, .ref (ad 12 0)), (1, .long x1), (3, .long x3)]) hx hb dX12_findCounts_199 hl (k := 5) rfl (by rw [ev22]; rfl) (by decide) rfl (fun ls hl => ?_)
                  refine lv_goto (tgt := 3) hx hb dX12_findCounts_202 (by decide) ?_
                  exact ih1 v22 M21 _ _ _ hW hS (lv_sub hl [3, 4, 5, 0] rfl) h
              · have h := sh_t c11 h
                refine lv_goto (tgt := 199) hx hb dX12_findCounts_119 (by decide) ?_
                obtain ⟨v23, ev23⟩ : ∃ y : Int32, y = i2 + (1 : Int32) := ⟨_, rfl⟩
                have h := nm_a ev23 h
                refine lv_iinc (v := v23) (lv' := [(5, .int v23), (6, .int (0 : Int32)), (0, .ref (ad 12 0)), (1, .long x1), (3, .long x3)]) hx hb dX12_findCounts_199 hl (k := 4) rfl (by rw [ev23]; rfl) (by decide) rfl (fun ls hl => ?_)
                refine lv_goto (tgt := 3) hx hb dX12_findCounts_202 (by decide) ?_
                exact ih1 v23 M7 _ _ _ hW hS (lv_sub hl [2, 3, 4, 0] rfl) h
          · have h := sh_t c8 h
            refine lv_iconst (v := (1 : Int32)) hx hb dX12_findCounts_86 (by decide) ?_
            refine lv_goto (tgt := 91) hx hb dX12_findCounts_87 (by decide) ?_
            refine lv_istore (lv' := [(6, .int (1 : Int32)), (0, .ref (ad 12 0)), (1, .long x1), (3, .long x3), (5, .int i2)]) hx hb dX12_findCounts_91 hl (by decide) rfl (fun ls hl => ?_)
            refine lv_iload hx hb dX12_findCounts_93 (lv_at hl 0 rfl) ?_
            refine lv_if_ne (tgt := 122) hx hb dX12_findCounts_95 (by decide) (fun _ => ?_) (fun hc => absurd hc (by decide))
            refine lv_iload hx hb dX12_findCounts_122 (lv_at hl 0 rfl) ?_
            refine lv_if_eq (tgt := 131) hx hb dX12_findCounts_124 (by decide) (fun hc => absurd hc (by decide)) (fun _ => ?_)
            refine lv_iconst (v := (1 : Int32)) hx hb dX12_findCounts_127 (by decide) ?_
            refine lv_goto (tgt := 138) hx hb dX12_findCounts_128 (by decide) ?_
            refine lv_istore (lv' := [(7, .int (1 : Int32)), (6, .int (1 : Int32)), (0, .ref (ad 12 0)), (1, .long x1), (3, .long x3), (5, .int i2)]) hx hb dX12_findCounts_138 hl (by decide) rfl (fun ls hl => ?_)
            refine lv_aload_n hx hb dX12_findCounts_140 rfl (lv_at hl 2 rfl) ?_
            refine gtX12_63 hx hb hts hown hK hW cz12 dX12_findCounts_141 ?_
            refine lv_iload hx hb dX12_findCounts_144 (lv_at hl 5 rfl) ?_
            refine lv_iload hx hb dX12_findCounts_146 (lv_at hl 0 rfl) ?_
            refine lv_iconst (v := (1 : Int32)) hx hb dX12_findCounts_148 (by decide) ?_
            refine lv_icmp_ne (tgt := 156) hx hb dX12_findCounts_149 (by decide) (fun hc => absurd hc (by decide)) (fun _ => ?_)
            refine lv_iconst (v := (0 : Int32)) hx hb dX12_findCounts_152 (by decide) ?_
            refine lv_goto (tgt := 198) hx hb dX12_findCounts_153 (by decide) ?_
            obtain ⟨hj, h⟩ := ix_a h
            refine as67 hx hb hK hW hS cz67 hj dX12_findCounts_198 (fun H locs hW hS => ?_)
            obtain ⟨M24, eM24⟩ : ∃ y, y = msI M7 6700 0 i2.toNatClampNeg (0 : Int32) := ⟨_, rfl⟩
            have h := nm_a eM24 h
            rw [← eM24] at hW
            obtain ⟨v25, ev25⟩ : ∃ y : Int32, y = i2 + (1 : Int32) := ⟨_, rfl⟩
            have h := nm_a ev25 h
            refine lv_iinc (v := v25) (lv' := [(5, .int v25), (7, .int (1 : Int32)), (6, .int (1 : Int32)), (0, .ref (ad 12 0)), (1, .long x1), (3, .long x3)]) hx hb dX12_findCounts_199 hl (k := 5) rfl (by rw [ev25]; rfl) (by decide) rfl (fun ls hl => ?_)
            refine lv_goto (tgt := 3) hx hb dX12_findCounts_202 (by decide) ?_
            exact ih1 v25 M24 _ _ _ hW hS (lv_sub hl [3, 4, 5, 0] rfl) h
        · have h := sh_t c5 h
          refine lv_aload_n hx hb dX12_findCounts_23 rfl (lv_at hl 0 rfl) ?_
          refine gtX12_63 hx hb hts hown hK hW cz12 dX12_findCounts_24 ?_
          refine lv_iload hx hb dX12_findCounts_27 (lv_at hl 3 rfl) ?_
          refine lv_bipush (v := (20 : Int32)) hx hb dX12_findCounts_29 (by decide) ?_
          refine lv_aload_n hx hb dX12_findCounts_31 rfl (lv_at hl 0 rfl) ?_
          refine gtX12_19 hx hb hts hown hK hW cz12 dX12_findCounts_32 ?_
          refine lv_iload hx hb dX12_findCounts_35 (lv_at hl 3 rfl) ?_
          obtain ⟨hj, h⟩ := ix_a h
          refine al53 hx hb hK hW cz53 hj dX12_findCounts_37 ?_
          refine lv_imul hx hb dX12_findCounts_38 ?_
          refine lv_topi (fun v26 ev26 => ?_)
          have h := nm_a ev26 h
          obtain ⟨hj, h⟩ := ix_a h
          refine as67 hx hb hK hW hS cz67 hj dX12_findCounts_39 (fun H locs hW hS => ?_)
          obtain ⟨M27, eM27⟩ : ∃ y, y = msI M3 6700 0 i2.toNatClampNeg v26 := ⟨_, rfl⟩
          have h := nm_a eM27 h
          rw [← eM27] at hW
          refine lv_aload_n hx hb dX12_findCounts_40 rfl (lv_at hl 0 rfl) ?_
          refine gtX12_66 hx hb hts hown hK hW cz12 dX12_findCounts_41 ?_
          refine lv_iload hx hb dX12_findCounts_44 (lv_at hl 3 rfl) ?_
          refine lv_sipush (v := (1000 : Int32)) hx hb dX12_findCounts_46 (by decide) ?_
          refine lv_aload_n hx hb dX12_findCounts_49 rfl (lv_at hl 0 rfl) ?_
          refine gtX12_16 hx hb hts hown hK hW cz12 dX12_findCounts_50 ?_
          refine lv_iload hx hb dX12_findCounts_53 (lv_at hl 3 rfl) ?_
          obtain ⟨hj, h⟩ := ix_a h
          refine al52 hx hb hK hW cz52 hj dX12_findCounts_55 ?_
          refine lv_imul hx hb dX12_findCounts_56 ?_
          refine lv_topi (fun v28 ev28 => ?_)
          have h := nm_a ev28 h
          obtain ⟨hj, h⟩ := ix_a h
          refine as68 hx hb hK hW hS cz68 hj dX12_findCounts_57 (fun H locs hW hS => ?_)
          obtain ⟨M29, eM29⟩ : ∃ y, y = msI M27 6800 0 i2.toNatClampNeg v28 := ⟨_, rfl⟩
          have h := nm_a eM29 h
          rw [← eM29] at hW
          refine lv_aload_n hx hb dX12_findCounts_58 rfl (lv_at hl 0 rfl) ?_
          refine gtX12_69 hx hb hts hown hK hW cz12 dX12_findCounts_59 ?_
          refine lv_iload hx hb dX12_findCounts_62 (lv_at hl 3 rfl) ?_
          refine lv_iconst (v := (1 : Int32)) hx hb dX12_findCounts_64 (by decide) ?_
          obtain ⟨hj, h⟩ := ix_a h
          refine as69 hx hb hK hW hS cz69 hj dX12_findCounts_65 (fun H locs hW hS => ?_)
          obtain ⟨M30, eM30⟩ : ∃ y, y = msI M29 6900 0 i2.toNatClampNeg (vp_nar .boolean (1 : Int32)) := ⟨_, rfl⟩
          have h := nm_a eM30 h
          rw [← eM30] at hW
          refine lv_goto (tgt := 75) hx hb dX12_findCounts_66 (by decide) ?_
          refine lv_lload_n hx hb dX12_findCounts_75 rfl (lv_at hl 1 rfl) ?_
          refine lv_iload hx hb dX12_findCounts_76 (lv_at hl 3 rfl) ?_
          refine lv_lshr hx hb dX12_findCounts_78 rfl ?_
          refine lv_lconst (v := (1 : Int64)) hx hb dX12_findCounts_79 (by decide) ?_
          refine lv_land hx hb dX12_findCounts_80 ?_
          refine lv_lconst (v := (1 : Int64)) hx hb dX12_findCounts_81 (by decide) ?_
          refine W.lcmp hx hb dX12_findCounts_82 ?_
          refine lv_if_ne (tgt := 90) hx hb dX12_findCounts_83 (by decide) (fun c31 => ?_) (fun c31 => ?_)
          · have h := sh_f c31 h
            refine lv_iconst (v := (0 : Int32)) hx hb dX12_findCounts_90 (by decide) ?_
            refine lv_istore (lv' := [(6, .int (0 : Int32)), (0, .ref (ad 12 0)), (1, .long x1), (3, .long x3), (5, .int i2)]) hx hb dX12_findCounts_91 hl (by decide) rfl (fun ls hl => ?_)
            refine lv_iload hx hb dX12_findCounts_93 (lv_at hl 0 rfl) ?_
            refine lv_if_ne (tgt := 122) hx hb dX12_findCounts_95 (by decide) (fun hc => absurd hc (by decide)) (fun _ => ?_)
            refine lv_aload_n hx hb dX12_findCounts_98 rfl (lv_at hl 1 rfl) ?_
            refine gtX12_22 hx hb hts hown hK hW cz12 dX12_findCounts_99 ?_
            refine lv_iload hx hb dX12_findCounts_102 (lv_at hl 4 rfl) ?_
            obtain ⟨hj, h⟩ := ix_a h
            refine al54 hx hb hK hW cz54 hj dX12_findCounts_104 ?_
            refine lv_if_lt (tgt := 199) hx hb dX12_findCounts_105 (by decide) (fun c32 => ?_) (fun c32 => ?_)
            · have h := sh_t c32 h
              obtain ⟨v33, ev33⟩ : ∃ y : Int32, y = i2 + (1 : Int32) := ⟨_, rfl⟩
              have h := nm_a ev33 h
              refine lv_iinc (v := v33) (lv' := [(5, .int v33), (6, .int (0 : Int32)), (0, .ref (ad 12 0)), (1, .long x1), (3, .long x3)]) hx hb dX12_findCounts_199 hl (k := 4) rfl (by rw [ev33]; rfl) (by decide) rfl (fun ls hl => ?_)
              refine lv_goto (tgt := 3) hx hb dX12_findCounts_202 (by decide) ?_
              exact ih1 v33 M30 _ _ _ hW hS (lv_sub hl [2, 3, 4, 0] rfl) h
            · have h := sh_f c32 h
              refine lv_lload_n hx hb dX12_findCounts_108 rfl (lv_at hl 3 rfl) ?_
              refine lv_iload hx hb dX12_findCounts_109 (lv_at hl 4 rfl) ?_
              refine lv_lshr hx hb dX12_findCounts_111 rfl ?_
              refine lv_lconst (v := (1 : Int64)) hx hb dX12_findCounts_112 (by decide) ?_
              refine lv_land hx hb dX12_findCounts_113 ?_
              refine lv_lconst (v := (1 : Int64)) hx hb dX12_findCounts_114 (by decide) ?_
              refine W.lcmp hx hb dX12_findCounts_115 ?_
              refine lv_if_ne (tgt := 122) hx hb dX12_findCounts_116 (by decide) (fun c34 => ?_) (fun c34 => ?_)
              · have h := sh_f c34 h
                refine lv_iload hx hb dX12_findCounts_122 (lv_at hl 0 rfl) ?_
                refine lv_if_eq (tgt := 131) hx hb dX12_findCounts_124 (by decide) (fun _ => ?_) (fun hc => absurd hc (by decide))
                refine lv_aload_n hx hb dX12_findCounts_131 rfl (lv_at hl 1 rfl) ?_
                refine gtX12_25 hx hb hts hown hK hW cz12 dX12_findCounts_132 ?_
                refine lv_iload hx hb dX12_findCounts_135 (lv_at hl 4 rfl) ?_
                obtain ⟨hj, h⟩ := ix_a h
                refine al55 hx hb hK hW cz55 hj dX12_findCounts_137 ?_
                refine lv_topi (fun v35 ev35 => ?_)
                have h := nm_a ev35 h
                refine lv_istore (lv' := [(7, .int v35), (6, .int (0 : Int32)), (0, .ref (ad 12 0)), (1, .long x1), (3, .long x3), (5, .int i2)]) hx hb dX12_findCounts_138 hl (by decide) rfl (fun ls hl => ?_)
                refine lv_aload_n hx hb dX12_findCounts_140 rfl (lv_at hl 2 rfl) ?_
                refine gtX12_63 hx hb hts hown hK hW cz12 dX12_findCounts_141 ?_
                refine lv_iload hx hb dX12_findCounts_144 (lv_at hl 5 rfl) ?_
                refine lv_iload hx hb dX12_findCounts_146 (lv_at hl 0 rfl) ?_
                refine lv_iconst (v := (1 : Int32)) hx hb dX12_findCounts_148 (by decide) ?_
                refine lv_icmp_ne (tgt := 156) hx hb dX12_findCounts_149 (by decide) (fun c36 => ?_) (fun c36 => ?_)
                · have h := sh_f c36 h
                  refine lv_iload hx hb dX12_findCounts_156 (lv_at hl 0 rfl) ?_
                  refine lv_if_ne (tgt := 189) hx hb dX12_findCounts_158 (by decide) (fun c37 => ?_) (fun c37 => ?_)
                  · have h := sh_f c37 h
                    refine lv_aload_n hx hb dX12_findCounts_189 rfl (lv_at hl 2 rfl) ?_
                    refine gtX12_63 hx hb hts hown hK hW cz12 dX12_findCounts_190 ?_
                    refine lv_iload hx hb dX12_findCounts_193 (lv_at hl 5 rfl) ?_
                    obtain ⟨hj, h⟩ := ix_a h
                    refine al67 hx hb hK hW cz67 hj dX12_findCounts_195 ?_
                    refine lv_iconst (v := (2 : Int32)) hx hb dX12_findCounts_196 (by decide) ?_
                    refine lv_idiv hx hb dX12_findCounts_197 (by decide) ?_
                    refine lv_topi (fun v38 ev38 => ?_)
                    have h := nm_a ev38 h
                    obtain ⟨hj, h⟩ := ix_a h
                    refine as67 hx hb hK hW hS cz67 hj dX12_findCounts_198 (fun H locs hW hS => ?_)
                    obtain ⟨M39, eM39⟩ : ∃ y, y = msI M30 6700 0 i2.toNatClampNeg v38 := ⟨_, rfl⟩
                    have h := nm_a eM39 h
                    rw [← eM39] at hW
                    obtain ⟨v40, ev40⟩ : ∃ y : Int32, y = i2 + (1 : Int32) := ⟨_, rfl⟩
                    have h := nm_a ev40 h
                    refine lv_iinc (v := v40) (lv' := [(5, .int v40), (7, .int v35), (6, .int (0 : Int32)), (0, .ref (ad 12 0)), (1, .long x1), (3, .long x3)]) hx hb dX12_findCounts_199 hl (k := 5) rfl (by rw [ev40]; rfl) (by decide) rfl (fun ls hl => ?_)
                    refine lv_goto (tgt := 3) hx hb dX12_findCounts_202 (by decide) ?_
                    exact ih1 v40 M39 _ _ _ hW hS (lv_sub hl [3, 4, 5, 0] rfl) h
                  · have h := sh_t c37 h
                    refine lv_aload_n hx hb dX12_findCounts_161 rfl (lv_at hl 2 rfl) ?_
                    refine gtX12_63 hx hb hts hown hK hW cz12 dX12_findCounts_162 ?_
                    refine lv_iload hx hb dX12_findCounts_165 (lv_at hl 5 rfl) ?_
                    obtain ⟨hj, h⟩ := ix_a h
                    refine al67 hx hb hK hW cz67 hj dX12_findCounts_167 ?_
                    refine lv_i2l hx hb dX12_findCounts_168 rfl ?_
                    refine lv_bipush (v := (10 : Int32)) hx hb dX12_findCounts_169 (by decide) ?_
                    refine lv_aload_n hx hb dX12_findCounts_171 rfl (lv_at hl 2 rfl) ?_
                    refine gtX12_28 hx hb hts hown hK hW cz12 dX12_findCounts_172 ?_
                    refine lv_iload hx hb dX12_findCounts_175 (lv_at hl 5 rfl) ?_
                    obtain ⟨hj, h⟩ := ix_a h
                    refine al56 hx hb hK hW cz56 hj dX12_findCounts_177 ?_
                    refine lv_isub hx hb dX12_findCounts_178 ?_
                    refine lv_i2l hx hb dX12_findCounts_179 rfl ?_
                    refine lv_lmul hx hb dX12_findCounts_180 ?_
                    refine lv_ldc2 hx hb hown (hts _ tw1467) dX12_findCounts_181 ?_
                    refine lv_ldiv hx hb dX12_findCounts_184 (by decide) ?_
                    refine lv_l2i hx hb dX12_findCounts_185 rfl ?_
                    refine lv_goto (tgt := 198) hx hb dX12_findCounts_186 (by decide) ?_
                    refine lv_topi (fun v41 ev41 => ?_)
                    have h := nm_a ev41 h
                    obtain ⟨hj, h⟩ := ix_a h
                    refine as67 hx hb hK hW hS cz67 hj dX12_findCounts_198 (fun H locs hW hS => ?_)
                    obtain ⟨M42, eM42⟩ : ∃ y, y = msI M30 6700 0 i2.toNatClampNeg v41 := ⟨_, rfl⟩
                    have h := nm_a eM42 h
                    rw [← eM42] at hW
                    obtain ⟨v43, ev43⟩ : ∃ y : Int32, y = i2 + (1 : Int32) := ⟨_, rfl⟩
                    have h := nm_a ev43 h
                    refine lv_iinc (v := v43) (lv' := [(5, .int v43), (7, .int v35), (6, .int (0 : Int32)), (0, .ref (ad 12 0)), (1, .long x1), (3, .long x3)]) hx hb dX12_findCounts_199 hl (k := 5) rfl (by rw [ev43]; rfl) (by decide) rfl (fun ls hl => ?_)
                    refine lv_goto (tgt := 3) hx hb dX12_findCounts_202 (by decide) ?_
                    exact ih1 v43 M42 _ _ _ hW hS (lv_sub hl [3, 4, 5, 0] rfl) h
                · have h := sh_t c36 h
                  refine lv_iconst (v := (0 : Int32)) hx hb dX12_findCounts_152 (by decide) ?_
                  refine lv_goto (tgt := 198) hx hb dX12_findCounts_153 (by decide) ?_
                  obtain ⟨hj, h⟩ := ix_a h
                  refine as67 hx hb hK hW hS cz67 hj dX12_findCounts_198 (fun H locs hW hS => ?_)
                  obtain ⟨M44, eM44⟩ : ∃ y, y = msI M30 6700 0 i2.toNatClampNeg (0 : Int32) := ⟨_, rfl⟩
                  have h := nm_a eM44 h
                  rw [← eM44] at hW
                  obtain ⟨v45, ev45⟩ : ∃ y : Int32, y = i2 + (1 : Int32) := ⟨_, rfl⟩
                  have h := nm_a ev45 h
                  refine lv_iinc (v := v45) (lv' := [(5, .int v45), (7, .int v35), (6, .int (0 : Int32)), (0, .ref (ad 12 0)), (1, .long x1), (3, .long x3)]) hx hb dX12_findCounts_199 hl (k := 5) rfl (by rw [ev45]; rfl) (by decide) rfl (fun ls hl => ?_)
                  refine lv_goto (tgt := 3) hx hb dX12_findCounts_202 (by decide) ?_
                  exact ih1 v45 M44 _ _ _ hW hS (lv_sub hl [3, 4, 5, 0] rfl) h
              · have h := sh_t c34 h
                refine lv_goto (tgt := 199) hx hb dX12_findCounts_119 (by decide) ?_
                obtain ⟨v46, ev46⟩ : ∃ y : Int32, y = i2 + (1 : Int32) := ⟨_, rfl⟩
                have h := nm_a ev46 h
                refine lv_iinc (v := v46) (lv' := [(5, .int v46), (6, .int (0 : Int32)), (0, .ref (ad 12 0)), (1, .long x1), (3, .long x3)]) hx hb dX12_findCounts_199 hl (k := 4) rfl (by rw [ev46]; rfl) (by decide) rfl (fun ls hl => ?_)
                refine lv_goto (tgt := 3) hx hb dX12_findCounts_202 (by decide) ?_
                exact ih1 v46 M30 _ _ _ hW hS (lv_sub hl [2, 3, 4, 0] rfl) h
          · have h := sh_t c31 h
            refine lv_iconst (v := (1 : Int32)) hx hb dX12_findCounts_86 (by decide) ?_
            refine lv_goto (tgt := 91) hx hb dX12_findCounts_87 (by decide) ?_
            refine lv_istore (lv' := [(6, .int (1 : Int32)), (0, .ref (ad 12 0)), (1, .long x1), (3, .long x3), (5, .int i2)]) hx hb dX12_findCounts_91 hl (by decide) rfl (fun ls hl => ?_)
            refine lv_iload hx hb dX12_findCounts_93 (lv_at hl 0 rfl) ?_
            refine lv_if_ne (tgt := 122) hx hb dX12_findCounts_95 (by decide) (fun _ => ?_) (fun hc => absurd hc (by decide))
            refine lv_iload hx hb dX12_findCounts_122 (lv_at hl 0 rfl) ?_
            refine lv_if_eq (tgt := 131) hx hb dX12_findCounts_124 (by decide) (fun hc => absurd hc (by decide)) (fun _ => ?_)
            refine lv_iconst (v := (1 : Int32)) hx hb dX12_findCounts_127 (by decide) ?_
            refine lv_goto (tgt := 138) hx hb dX12_findCounts_128 (by decide) ?_
            refine lv_istore (lv' := [(7, .int (1 : Int32)), (6, .int (1 : Int32)), (0, .ref (ad 12 0)), (1, .long x1), (3, .long x3), (5, .int i2)]) hx hb dX12_findCounts_138 hl (by decide) rfl (fun ls hl => ?_)
            refine lv_aload_n hx hb dX12_findCounts_140 rfl (lv_at hl 2 rfl) ?_
            refine gtX12_63 hx hb hts hown hK hW cz12 dX12_findCounts_141 ?_
            refine lv_iload hx hb dX12_findCounts_144 (lv_at hl 5 rfl) ?_
            refine lv_iload hx hb dX12_findCounts_146 (lv_at hl 0 rfl) ?_
            refine lv_iconst (v := (1 : Int32)) hx hb dX12_findCounts_148 (by decide) ?_
            refine lv_icmp_ne (tgt := 156) hx hb dX12_findCounts_149 (by decide) (fun hc => absurd hc (by decide)) (fun _ => ?_)
            refine lv_iconst (v := (0 : Int32)) hx hb dX12_findCounts_152 (by decide) ?_
            refine lv_goto (tgt := 198) hx hb dX12_findCounts_153 (by decide) ?_
            obtain ⟨hj, h⟩ := ix_a h
            refine as67 hx hb hK hW hS cz67 hj dX12_findCounts_198 (fun H locs hW hS => ?_)
            obtain ⟨M47, eM47⟩ : ∃ y, y = msI M30 6700 0 i2.toNatClampNeg (0 : Int32) := ⟨_, rfl⟩
            have h := nm_a eM47 h
            rw [← eM47] at hW
            obtain ⟨v48, ev48⟩ : ∃ y : Int32, y = i2 + (1 : Int32) := ⟨_, rfl⟩
            have h := nm_a ev48 h
            refine lv_iinc (v := v48) (lv' := [(5, .int v48), (7, .int (1 : Int32)), (6, .int (1 : Int32)), (0, .ref (ad 12 0)), (1, .long x1), (3, .long x3)]) hx hb dX12_findCounts_199 hl (k := 5) rfl (by rw [ev48]; rfl) (by decide) rfl (fun ls hl => ?_)
            refine lv_goto (tgt := 3) hx hb dX12_findCounts_202 (by decide) ?_
            exact ih1 v48 M47 _ _ _ hW hS (lv_sub hl [3, 4, 5, 0] rfl) h
  exact L1 FU (0 : Int32) M0 _ _ _ hW hS (lv_sub hl [1, 2, 3, 0] rfl) h
def fX12_isYes (x1 : Int32) (M0 : Mem) : Option Int32 :=
  ix x1 64 <| if (mgI M0 6700 0 x1.toNatClampNeg) ≤ 0 then (some (0 : Int32)) else (ix x1 64 <| if (mgI M0 6900 0 x1.toNatClampNeg) = 0 then (some (0 : Int32)) else (ix x1 64 <| ix x1 64 <| if (mgI M0 6800 0 x1.toNatClampNeg) < ((1000 : Int32) * (mgI M0 5200 0 x1.toNatClampNeg)) then (some (0 : Int32)) else (some (1 : Int32))))
set_option maxHeartbeats 4000000 in
set_option maxRecDepth 100000 in
theorem mX12_isYes {l : Launch} {D : va_G} {cy : Nat → ClassId} {A : Nat → Prop} {Z : State → Heap → Prop} {ad : Nat → Nat → Nat} (hZk : ZOK A Z) (x1 : Int32) (M0 : Mem) (r : Int32) (h : fX12_isYes x1 M0 = some r) : Met l yX12_isYes (wt yX12_isYes cX12_isYes 2 (some .boolean)) (rm 0 0) (CPre D cy A Z cnM ad M0 [.ref (ad 12 0), .int x1]) (QZ D cy A cnM ad r M0) 0 0 A := by
  refine tb_start [.ref (ad 12 0), .int x1] [(0, .ref (ad 12 0)), (1, .int x1)] RX12 rfl (by decide +kernel) (Nat.le_of_ble_eq_true rfl) rfl (fun p e s m args below meth c hx hb hr hml hown hts hlk hW hK hZ ls hl => ?_)
  have hS : va_S A s.heap s.heap [] := va_S.rf
  unfold fX12_isYes at h
  refine lv_aload_n hx hb dX12_isYes_0 rfl (lv_at hl 0 rfl) ?_
  refine gtX12_63 hx hb hts hown hK hW cz12 dX12_isYes_1 ?_
  refine lv_iload_n hx hb dX12_isYes_4 rfl (lv_at hl 1 rfl) ?_
  obtain ⟨hj, h⟩ := ix_a h
  refine al67 hx hb hK hW cz67 hj dX12_isYes_5 ?_
  refine lv_if_le (tgt := 41) hx hb dX12_isYes_6 (by decide) (fun c1 => ?_) (fun c1 => ?_)
  · have h := sh_t c1 h
    refine lv_iconst (v := (0 : Int32)) hx hb dX12_isYes_41 (by decide) ?_
    exact tb_zretO h hx hb hr hS hW hlk (by decide) dX12_isYes_42
  · have h := sh_f c1 h
    refine lv_aload_n hx hb dX12_isYes_9 rfl (lv_at hl 0 rfl) ?_
    refine gtX12_69 hx hb hts hown hK hW cz12 dX12_isYes_10 ?_
    refine lv_iload_n hx hb dX12_isYes_13 rfl (lv_at hl 1 rfl) ?_
    obtain ⟨hj, h⟩ := ix_a h
    refine al69 hx hb hK hW cz69 hj dX12_isYes_14 ?_
    refine lv_if_eq (tgt := 41) hx hb dX12_isYes_15 (by decide) (fun c2 => ?_) (fun c2 => ?_)
    · have h := sh_t c2 h
      refine lv_iconst (v := (0 : Int32)) hx hb dX12_isYes_41 (by decide) ?_
      exact tb_zretO h hx hb hr hS hW hlk (by decide) dX12_isYes_42
    · have h := sh_f c2 h
      refine lv_aload_n hx hb dX12_isYes_18 rfl (lv_at hl 0 rfl) ?_
      refine gtX12_66 hx hb hts hown hK hW cz12 dX12_isYes_19 ?_
      refine lv_iload_n hx hb dX12_isYes_22 rfl (lv_at hl 1 rfl) ?_
      obtain ⟨hj, h⟩ := ix_a h
      refine al68 hx hb hK hW cz68 hj dX12_isYes_23 ?_
      refine lv_sipush (v := (1000 : Int32)) hx hb dX12_isYes_24 (by decide) ?_
      refine lv_aload_n hx hb dX12_isYes_27 rfl (lv_at hl 0 rfl) ?_
      refine gtX12_16 hx hb hts hown hK hW cz12 dX12_isYes_28 ?_
      refine lv_iload_n hx hb dX12_isYes_31 rfl (lv_at hl 1 rfl) ?_
      obtain ⟨hj, h⟩ := ix_a h
      refine al52 hx hb hK hW cz52 hj dX12_isYes_32 ?_
      refine lv_imul hx hb dX12_isYes_33 ?_
      refine lv_icmp_lt (tgt := 41) hx hb dX12_isYes_34 (by decide) (fun c3 => ?_) (fun c3 => ?_)
      · have h := sh_t c3 h
        refine lv_iconst (v := (0 : Int32)) hx hb dX12_isYes_41 (by decide) ?_
        exact tb_zretO h hx hb hr hS hW hlk (by decide) dX12_isYes_42
      · have h := sh_f c3 h
        refine lv_iconst (v := (1 : Int32)) hx hb dX12_isYes_37 (by decide) ?_
        refine lv_goto (tgt := 42) hx hb dX12_isYes_38 (by decide) ?_
        exact tb_zretO h hx hb hr hS hW hlk (by decide) dX12_isYes_42
def fX12_linesOf_b4 (M0 : Mem) (x1 : Int32) (k1 : Int32 → Int32 → Option Int32) (i2 : Int32) (i3 : Int32) : Option Int32 :=
  if (mgI M0 1212 0 0) ≤ i3 then (some i2) else (ix i3 200 <| if (mgI M0 5900 0 i3.toNatClampNeg) = x1 then (nm (i2 + (1 : Int32)) fun v8 => nm (i3 + (1 : Int32)) fun v9 => k1 v8 v9) else (nm (i2 + (0 : Int32)) fun v6 => nm (i3 + (1 : Int32)) fun v7 => k1 v6 v7))
def fX12_linesOf_l4 (M0 : Mem) (x1 : Int32) : Nat → Int32 → Int32 → Option Int32
  | 0, _, _ => none
  | n + 1, i2, i3 => fX12_linesOf_b4 M0 x1 (fX12_linesOf_l4 M0 x1 n) i2 i3
def fX12_linesOf (x1 : Int32) (M0 : Mem) : Option Int32 :=
  fX12_linesOf_l4 M0 x1 FU (0 : Int32) (0 : Int32)
set_option maxHeartbeats 4000000 in
set_option maxRecDepth 100000 in
theorem mX12_linesOf {l : Launch} {D : va_G} {cy : Nat → ClassId} {A : Nat → Prop} {Z : State → Heap → Prop} {ad : Nat → Nat → Nat} (hZk : ZOK A Z) (x1 : Int32) (M0 : Mem) (r : Int32) (h : fX12_linesOf x1 M0 = some r) : Met l yX12_linesOf (wt yX12_linesOf cX12_linesOf 4 (some .int)) (rm 0 0) (CPre D cy A Z cnM ad M0 [.ref (ad 12 0), .int x1]) (QI D cy A cnM ad r M0) 0 0 A := by
  refine tb_start [.ref (ad 12 0), .int x1] [(0, .ref (ad 12 0)), (1, .int x1)] RX12 rfl (by decide +kernel) (Nat.le_of_ble_eq_true rfl) rfl (fun p e s m args below meth c hx hb hr hml hown hts hlk hW hK hZ ls hl => ?_)
  have hS : va_S A s.heap s.heap [] := va_S.rf
  unfold fX12_linesOf at h
  refine lv_iconst (v := (0 : Int32)) hx hb dX12_linesOf_0 (by decide) ?_
  refine lv_istore_n (lv' := [(2, .int (0 : Int32)), (0, .ref (ad 12 0)), (1, .int x1)]) hx hb dX12_linesOf_1 rfl hl (by decide) rfl (fun ls hl => ?_)
  refine lv_iconst (v := (0 : Int32)) hx hb dX12_linesOf_2 (by decide) ?_
  refine lv_istore_n (lv' := [(3, .int (0 : Int32)), (2, .int (0 : Int32)), (0, .ref (ad 12 0)), (1, .int x1)]) hx hb dX12_linesOf_3 rfl hl (by decide) rfl (fun ls hl => ?_)
  have L1 : ∀ (n1 : Nat) (i2 : Int32) (i3 : Int32) (H : Heap) (locs : List Loc) (ls : Array Slot), Wd D cy A cnM ad M0 H → va_S A s.heap H locs → lv_has ls 4 [(0, .ref (ad 12 0)), (1, .int x1), (2, .int i2), (3, .int i3)] → fX12_linesOf_l4 M0 x1 n1 i2 i3 = some r → W p l e (rm 0 0) s m args below meth c H locs 0 0 (MQ below (QI D cy A cnM ad r M0) args s 0 0 A) (F0 m 4 ls []) := by
    intro n1
    induction n1 with
    | zero => intro i2 i3 H locs ls hW hS hl h; cases h
    | succ n1 ih1 =>
      intro i2 i3 H locs ls hW hS hl h
      unfold fX12_linesOf_l4 fX12_linesOf_b4 at h
      refine lv_iload_n hx hb dX12_linesOf_4 rfl (lv_at hl 3 rfl) ?_
      refine lv_aload_n hx hb dX12_linesOf_5 rfl (lv_at hl 0 rfl) ?_
      refine gtX12_154 hx hb hts hown hK hW cz12 dX12_linesOf_6 ?_
      refine lv_icmp_ge (tgt := 36) hx hb dX12_linesOf_9 (by decide) (fun c4 => ?_) (fun c4 => ?_)
      · have h := sh_t c4 h
        refine lv_iload_n hx hb dX12_linesOf_36 rfl (lv_at hl 2 rfl) ?_
        exact tb_iretO h hx hb hr hS hW hlk dX12_linesOf_37
      · have h := sh_f c4 h
        refine lv_iload_n hx hb dX12_linesOf_12 rfl (lv_at hl 2 rfl) ?_
        refine lv_aload_n hx hb dX12_linesOf_13 rfl (lv_at hl 0 rfl) ?_
        refine gtX12_38 hx hb hts hown hK hW cz12 dX12_linesOf_14 ?_
        refine lv_iload_n hx hb dX12_linesOf_17 rfl (lv_at hl 3 rfl) ?_
        obtain ⟨hj, h⟩ := ix_a h
        refine al59 hx hb hK hW cz59 hj dX12_linesOf_18 ?_
        refine lv_iload_n hx hb dX12_linesOf_19 rfl (lv_at hl 1 rfl) ?_
        refine lv_icmp_ne (tgt := 27) hx hb dX12_linesOf_20 (by decide) (fun c5 => ?_) (fun c5 => ?_)
        · have h := sh_f c5 h
          refine lv_iconst (v := (0 : Int32)) hx hb dX12_linesOf_27 (by decide) ?_
          refine lv_iadd hx hb dX12_linesOf_28 ?_
          refine lv_topi (fun v6 ev6 => ?_)
          have h := nm_a ev6 h
          refine lv_istore_n (lv' := [(2, .int v6), (0, .ref (ad 12 0)), (1, .int x1), (3, .int i3)]) hx hb dX12_linesOf_29 rfl hl (by decide) rfl (fun ls hl => ?_)
          obtain ⟨v7, ev7⟩ : ∃ y : Int32, y = i3 + (1 : Int32) := ⟨_, rfl⟩
          have h := nm_a ev7 h
          refine lv_iinc (v := v7) (lv' := [(3, .int v7), (2, .int v6), (0, .ref (ad 12 0)), (1, .int x1)]) hx hb dX12_linesOf_30 hl (k := 3) rfl (by rw [ev7]; rfl) (by decide) rfl (fun ls hl => ?_)
          refine lv_goto (tgt := 4) hx hb dX12_linesOf_33 (by decide) ?_
          exact ih1 v6 v7 _ _ _ hW hS (lv_sub hl [2, 3, 1, 0] rfl) h
        · have h := sh_t c5 h
          refine lv_iconst (v := (1 : Int32)) hx hb dX12_linesOf_23 (by decide) ?_
          refine lv_goto (tgt := 28) hx hb dX12_linesOf_24 (by decide) ?_
          refine lv_iadd hx hb dX12_linesOf_28 ?_
          refine lv_topi (fun v8 ev8 => ?_)
          have h := nm_a ev8 h
          refine lv_istore_n (lv' := [(2, .int v8), (0, .ref (ad 12 0)), (1, .int x1), (3, .int i3)]) hx hb dX12_linesOf_29 rfl hl (by decide) rfl (fun ls hl => ?_)
          obtain ⟨v9, ev9⟩ : ∃ y : Int32, y = i3 + (1 : Int32) := ⟨_, rfl⟩
          have h := nm_a ev9 h
          refine lv_iinc (v := v9) (lv' := [(3, .int v9), (2, .int v8), (0, .ref (ad 12 0)), (1, .int x1)]) hx hb dX12_linesOf_30 hl (k := 3) rfl (by rw [ev9]; rfl) (by decide) rfl (fun ls hl => ?_)
          refine lv_goto (tgt := 4) hx hb dX12_linesOf_33 (by decide) ?_
          exact ih1 v8 v9 _ _ _ hW hS (lv_sub hl [2, 3, 1, 0] rfl) h
  exact L1 FU (0 : Int32) (0 : Int32) _ _ _ hW hS (lv_sub hl [2, 3, 1, 0] rfl) h
def fX12_ofStone (x1 : Int32) (x2 : Int32) (M0 : Mem) : Option (Int32 × Mem) :=
  nm (fX12_isStone x1 M0) fun b1 => if b1 = 0 then (some ((-1 : Int32), M0)) else (if x2 = (0 : Int32) then (bE (fX12_kindNow x1 M0) fun b4 M5 => some (b4, M5)) else if x2 = (1 : Int32) then (ix x1 64 <| some (mgI M0 5100 0 x1.toNatClampNeg, M0)) else if x2 = (2 : Int32) then (bE (fX12_findCounts (0 : Int64) (0 : Int64) M0) fun u8 M9 => ix x1 64 <| some (mgI M9 6700 0 x1.toNatClampNeg, M9)) else if x2 = (3 : Int32) then (bd (fX12_linesOf x1 M0) fun b11 => some (b11, M0)) else if x2 = (4 : Int32) then (ix x1 64 <| some (mgI M0 5400 0 x1.toNatClampNeg, M0)) else if x2 = (5 : Int32) then (ix x1 64 <| some (mgI M0 5500 0 x1.toNatClampNeg, M0)) else if x2 = (6 : Int32) then (ix x1 64 <| some (mgI M0 5700 0 x1.toNatClampNeg, M0)) else if x2 = (7 : Int32) then (bE (fX12_findStanding M0) fun u16 M17 => ix x1 64 <| some (mgI M17 6600 0 x1.toNatClampNeg, M17)) else if x2 = (8 : Int32) then (bE (fX12_findStanding M0) fun u19 M20 => ix x1 64 <| bd (fX12_bitsOf (mgL M20 6500 0 x1.toNatClampNeg)) fun b21 => some (b21, M20)) else some ((-1 : Int32), M0))
set_option maxHeartbeats 4000000 in
set_option maxRecDepth 100000 in
theorem mX12_ofStone {l : Launch} {D : va_G} {cy : Nat → ClassId} {A : Nat → Prop} {Z : State → Heap → Prop} {ad : Nat → Nat → Nat} (hZk : ZOK A Z) (x1 : Int32) (x2 : Int32) (M0 : Mem) (r : Int32) (M' : Mem) (h : fX12_ofStone x1 x2 M0 = some (r, M')) : Met l yX12_ofStone (wt yX12_ofStone cX12_ofStone 3 (some .int)) (rm 4 87) (CPre D cy A Z cnM ad M0 [.ref (ad 12 0), .int x1, .int x2]) (QI D cy A cnM ad r M') 0 0 A := by
  refine tb_start [.ref (ad 12 0), .int x1, .int x2] [(0, .ref (ad 12 0)), (1, .int x1), (2, .int x2)] RX12 rfl (by decide +kernel) (Nat.le_of_ble_eq_true rfl) rfl (fun p e s m args below meth c hx hb hr hml hown hts hlk hW hK hZ ls hl => ?_)
  have hS : va_S A s.heap s.heap [] := va_S.rf
  unfold fX12_ofStone at h
  refine lv_aload_n hx hb dX12_ofStone_0 rfl (lv_at hl 0 rfl) ?_
  refine lv_iload_n hx hb dX12_ofStone_1 rfl (lv_at hl 1 rfl) ?_
  refine tb_cVZ hZk hx hb hml hown hts hK hZ hW hS [.int x1] (mX12_isStone (l := l) hZk x1 M0 (fX12_isStone x1 M0) rfl) pmX12_isStone tw1415 (Wd.recv hK hW (t := 12) (by decide) cz12 (C := RX12) (T := TX12) (N := 58) rfl) ⟨Nat.le_of_ble_eq_true rfl, Nat.le_of_ble_eq_true rfl⟩ rfl hl.1 (Nat.le_of_ble_eq_true rfl) ⟨Nat.le_refl _, Nat.le_refl _⟩ rfl dX12_ofStone_2 (fun H locs hW hS hzz => ?_)
  refine lv_topi (fun b1 eb1 => ?_)
  have h := nm_a eb1 h
  have hzb1 : b1 = 0 ∨ b1 = 1 := by rw [eb1]; exact hzz
  refine lv_if_ne (tgt := 10) hx hb dX12_ofStone_5 (by decide) (fun c2 => ?_) (fun c2 => ?_)
  · have h := sh_f c2 h
    refine lv_iload_n hx hb dX12_ofStone_10 rfl (lv_at hl 2 rfl) ?_
    by_cases c3 : x2 = (0 : Int32)
    · have h := sh_t c3 h
      refine lv_tableIn (off := 49) (tgt := 60) hx hb dX12_ofStone_11 (by rw [c3]; decide) (by rw [c3]; decide) (by rw [c3]; rfl) (by decide) ?_
      refine lv_aload_n hx hb dX12_ofStone_60 rfl (lv_at hl 0 rfl) ?_
      refine lv_iload_n hx hb dX12_ofStone_61 rfl (lv_at hl 1 rfl) ?_
      obtain ⟨b4, M5, hcb4, h⟩ := bE_a h
      refine tb_cVI hZk hx hb hml hown hts hK hZ hW hS [.int x1] (mX12_kindNow (l := l) hZk x1 M0 b4 M5 hcb4) pmX12_kindNow tw1435 (Wd.recv hK hW (t := 12) (by decide) cz12 (C := RX12) (T := TX12) (N := 58) rfl) ⟨Nat.le_of_ble_eq_true rfl, Nat.le_of_ble_eq_true rfl⟩ rfl hl.1 (Nat.le_of_ble_eq_true rfl) ⟨Nat.le_refl _, Nat.le_refl _⟩ rfl dX12_ofStone_62 (fun H locs hW hS => ?_)
      exact tb_iretE h hx hb hr hS hW hlk dX12_ofStone_65
    · have h := sh_f c3 h
      by_cases c6 : x2 = (1 : Int32)
      · have h := sh_t c6 h
        refine lv_tableIn (off := 55) (tgt := 66) hx hb dX12_ofStone_11 (by rw [c6]; decide) (by rw [c6]; decide) (by rw [c6]; rfl) (by decide) ?_
        refine lv_aload_n hx hb dX12_ofStone_66 rfl (lv_at hl 0 rfl) ?_
        refine gtX12_13 hx hb hts hown hK hW cz12 dX12_ofStone_67 ?_
        refine lv_iload_n hx hb dX12_ofStone_70 rfl (lv_at hl 1 rfl) ?_
        obtain ⟨hj, h⟩ := ix_a h
        refine al51 hx hb hK hW cz51 hj dX12_ofStone_71 ?_
        exact tb_iretE h hx hb hr hS hW hlk dX12_ofStone_72
      · have h := sh_f c6 h
        by_cases c7 : x2 = (2 : Int32)
        · have h := sh_t c7 h
          refine lv_tableIn (off := 62) (tgt := 73) hx hb dX12_ofStone_11 (by rw [c7]; decide) (by rw [c7]; decide) (by rw [c7]; rfl) (by decide) ?_
          refine lv_aload_n hx hb dX12_ofStone_73 rfl (lv_at hl 0 rfl) ?_
          refine lv_lconst (v := (0 : Int64)) hx hb dX12_ofStone_74 (by decide) ?_
          refine lv_lconst (v := (0 : Int64)) hx hb dX12_ofStone_75 (by decide) ?_
          obtain ⟨u8, M9, hcu8, h⟩ := bE_a h
          refine tb_cVV hZk hx hb hml hown hts hK hZ hW hS [.long (0 : Int64), .long (0 : Int64)] (mX12_findCounts (l := l) hZk (0 : Int64) (0 : Int64) M0 u8 M9 hcu8) pmX12_findCounts tw1455 (Wd.recv hK hW (t := 12) (by decide) cz12 (C := RX12) (T := TX12) (N := 58) rfl) ⟨Nat.le_of_ble_eq_true rfl, Nat.le_of_ble_eq_true rfl⟩ rfl hl.1 (Nat.le_of_ble_eq_true rfl) ⟨Nat.le_refl _, Nat.le_refl _⟩ rfl dX12_ofStone_76 (fun H locs hW hS => ?_)
          refine lv_aload_n hx hb dX12_ofStone_79 rfl (lv_at hl 0 rfl) ?_
          refine gtX12_63 hx hb hts hown hK hW cz12 dX12_ofStone_80 ?_
          refine lv_iload_n hx hb dX12_ofStone_83 rfl (lv_at hl 1 rfl) ?_
          obtain ⟨hj, h⟩ := ix_a h
          refine al67 hx hb hK hW cz67 hj dX12_ofStone_84 ?_
          exact tb_iretE h hx hb hr hS hW hlk dX12_ofStone_85
        · have h := sh_f c7 h
          by_cases c10 : x2 = (3 : Int32)
          · have h := sh_t c10 h
            refine lv_tableIn (off := 75) (tgt := 86) hx hb dX12_ofStone_11 (by rw [c10]; decide) (by rw [c10]; decide) (by rw [c10]; rfl) (by decide) ?_
            refine lv_aload_n hx hb dX12_ofStone_86 rfl (lv_at hl 0 rfl) ?_
            refine lv_iload_n hx hb dX12_ofStone_87 rfl (lv_at hl 1 rfl) ?_
            obtain ⟨b11, hcb11, h⟩ := bd_a h
            refine tb_cVI hZk hx hb hml hown hts hK hZ hW hS [.int x1] (mX12_linesOf (l := l) hZk x1 M0 b11 hcb11) pmX12_linesOf tw1468 (Wd.recv hK hW (t := 12) (by decide) cz12 (C := RX12) (T := TX12) (N := 58) rfl) ⟨Nat.le_of_ble_eq_true rfl, Nat.le_of_ble_eq_true rfl⟩ rfl hl.1 (Nat.le_of_ble_eq_true rfl) ⟨Nat.le_refl _, Nat.le_refl _⟩ rfl dX12_ofStone_88 (fun H locs hW hS => ?_)
            exact tb_iretE h hx hb hr hS hW hlk dX12_ofStone_91
          · have h := sh_f c10 h
            by_cases c12 : x2 = (4 : Int32)
            · have h := sh_t c12 h
              refine lv_tableIn (off := 81) (tgt := 92) hx hb dX12_ofStone_11 (by rw [c12]; decide) (by rw [c12]; decide) (by rw [c12]; rfl) (by decide) ?_
              refine lv_aload_n hx hb dX12_ofStone_92 rfl (lv_at hl 0 rfl) ?_
              refine gtX12_22 hx hb hts hown hK hW cz12 dX12_ofStone_93 ?_
              refine lv_iload_n hx hb dX12_ofStone_96 rfl (lv_at hl 1 rfl) ?_
              obtain ⟨hj, h⟩ := ix_a h
              refine al54 hx hb hK hW cz54 hj dX12_ofStone_97 ?_
              exact tb_iretE h hx hb hr hS hW hlk dX12_ofStone_98
            · have h := sh_f c12 h
              by_cases c13 : x2 = (5 : Int32)
              · have h := sh_t c13 h
                refine lv_tableIn (off := 88) (tgt := 99) hx hb dX12_ofStone_11 (by rw [c13]; decide) (by rw [c13]; decide) (by rw [c13]; rfl) (by decide) ?_
                refine lv_aload_n hx hb dX12_ofStone_99 rfl (lv_at hl 0 rfl) ?_
                refine gtX12_25 hx hb hts hown hK hW cz12 dX12_ofStone_100 ?_
                refine lv_iload_n hx hb dX12_ofStone_103 rfl (lv_at hl 1 rfl) ?_
                obtain ⟨hj, h⟩ := ix_a h
                refine al55 hx hb hK hW cz55 hj dX12_ofStone_104 ?_
                exact tb_iretE h hx hb hr hS hW hlk dX12_ofStone_105
              · have h := sh_f c13 h
                by_cases c14 : x2 = (6 : Int32)
                · have h := sh_t c14 h
                  refine lv_tableIn (off := 95) (tgt := 106) hx hb dX12_ofStone_11 (by rw [c14]; decide) (by rw [c14]; decide) (by rw [c14]; rfl) (by decide) ?_
                  refine lv_aload_n hx hb dX12_ofStone_106 rfl (lv_at hl 0 rfl) ?_
                  refine gtX12_31 hx hb hts hown hK hW cz12 dX12_ofStone_107 ?_
                  refine lv_iload_n hx hb dX12_ofStone_110 rfl (lv_at hl 1 rfl) ?_
                  obtain ⟨hj, h⟩ := ix_a h
                  refine al57 hx hb hK hW cz57 hj dX12_ofStone_111 ?_
                  exact tb_iretE h hx hb hr hS hW hlk dX12_ofStone_112
                · have h := sh_f c14 h
                  by_cases c15 : x2 = (7 : Int32)
                  · have h := sh_t c15 h
                    refine lv_tableIn (off := 102) (tgt := 113) hx hb dX12_ofStone_11 (by rw [c15]; decide) (by rw [c15]; decide) (by rw [c15]; rfl) (by decide) ?_
                    refine lv_aload_n hx hb dX12_ofStone_113 rfl (lv_at hl 0 rfl) ?_
                    obtain ⟨u16, M17, hcu16, h⟩ := bE_a h
                    refine tb_cVV hZk hx hb hml hown hts hK hZ hW hS [] (mX12_findStanding (l := l) hZk M0 u16 M17 hcu16) pmX12_findStanding tw1439 (Wd.recv hK hW (t := 12) (by decide) cz12 (C := RX12) (T := TX12) (N := 58) rfl) ⟨Nat.le_of_ble_eq_true rfl, Nat.le_of_ble_eq_true rfl⟩ rfl hl.1 (Nat.le_of_ble_eq_true rfl) ⟨Nat.le_refl _, Nat.le_refl _⟩ rfl dX12_ofStone_114 (fun H locs hW hS => ?_)
                    refine lv_aload_n hx hb dX12_ofStone_117 rfl (lv_at hl 0 rfl) ?_
                    refine gtX12_60 hx hb hts hown hK hW cz12 dX12_ofStone_118 ?_
                    refine lv_iload_n hx hb dX12_ofStone_121 rfl (lv_at hl 1 rfl) ?_
                    obtain ⟨hj, h⟩ := ix_a h
                    refine al66 hx hb hK hW cz66 hj dX12_ofStone_122 ?_
                    exact tb_iretE h hx hb hr hS hW hlk dX12_ofStone_123
                  · have h := sh_f c15 h
                    by_cases c18 : x2 = (8 : Int32)
                    · have h := sh_t c18 h
                      refine lv_tableIn (off := 113) (tgt := 124) hx hb dX12_ofStone_11 (by rw [c18]; decide) (by rw [c18]; decide) (by rw [c18]; rfl) (by decide) ?_
                      refine lv_aload_n hx hb dX12_ofStone_124 rfl (lv_at hl 0 rfl) ?_
                      obtain ⟨u19, M20, hcu19, h⟩ := bE_a h
                      refine tb_cVV hZk hx hb hml hown hts hK hZ hW hS [] (mX12_findStanding (l := l) hZk M0 u19 M20 hcu19) pmX12_findStanding tw1439 (Wd.recv hK hW (t := 12) (by decide) cz12 (C := RX12) (T := TX12) (N := 58) rfl) ⟨Nat.le_of_ble_eq_true rfl, Nat.le_of_ble_eq_true rfl⟩ rfl hl.1 (Nat.le_of_ble_eq_true rfl) ⟨Nat.le_refl _, Nat.le_refl _⟩ rfl dX12_ofStone_125 (fun H locs hW hS => ?_)
                      refine lv_aload_n hx hb dX12_ofStone_128 rfl (lv_at hl 0 rfl) ?_
                      refine gtX12_57 hx hb hts hown hK hW cz12 dX12_ofStone_129 ?_
                      refine lv_iload_n hx hb dX12_ofStone_132 rfl (lv_at hl 1 rfl) ?_
                      obtain ⟨hj, h⟩ := ix_a h
                      refine al65 hx hb hK hW cz65 hj dX12_ofStone_133 ?_
                      obtain ⟨b21, hcb21, h⟩ := bd_a h
                      refine tb_cSI hZk hx hb hml hown hts hK hZ hW hS [.long (mgL M20 6500 0 x1.toNatClampNeg)] (mX12_bitsOf (l := l) hZk (mgL M20 6500 0 x1.toNatClampNeg) M20 b21 hcb21) pmX12_bitsOf tw1472 ⟨Nat.le_of_ble_eq_true rfl, Nat.le_of_ble_eq_true rfl⟩ rfl hl.1 (Nat.le_of_ble_eq_true rfl) ⟨Nat.le_refl _, Nat.le_refl _⟩ rfl dX12_ofStone_134 (fun H locs hW hS => ?_)
                      exact tb_iretE h hx hb hr hS hW hlk dX12_ofStone_137
                    · have h := sh_f c18 h
                      refine lv_tableOut (tgt := 138) hx hb dX12_ofStone_11 (sw_out x2 (by decide) (fun z h1 h2 => by
                        rcases (show z = 0 ∨ z = 1 ∨ z = 2 ∨ z = 3 ∨ z = 4 ∨ z = 5 ∨ z = 6 ∨ z = 7 ∨ z = 8 by omega) with rfl | rfl | rfl | rfl | rfl | rfl | rfl | rfl | rfl <;> first | exact fun e => c3 (Int32.toInt_inj.mp (e.trans (by decide))) | exact fun e => c6 (Int32.toInt_inj.mp (e.trans (by decide))) | exact fun e => c7 (Int32.toInt_inj.mp (e.trans (by decide))) | exact fun e => c10 (Int32.toInt_inj.mp (e.trans (by decide))) | exact fun e => c12 (Int32.toInt_inj.mp (e.trans (by decide))) | exact fun e => c13 (Int32.toInt_inj.mp (e.trans (by decide))) | exact fun e => c14 (Int32.toInt_inj.mp (e.trans (by decide))) | exact fun e => c15 (Int32.toInt_inj.mp (e.trans (by decide))) | exact fun e => c18 (Int32.toInt_inj.mp (e.trans (by decide))))) (by decide) ?_
                      refine lv_iconst (v := (-1 : Int32)) hx hb dX12_ofStone_138 (by decide) ?_
                      exact tb_iretE h hx hb hr hS hW hlk dX12_ofStone_139
  · have h := sh_t c2 h
    refine lv_iconst (v := (-1 : Int32)) hx hb dX12_ofStone_8 (by decide) ?_
    exact tb_iretE h hx hb hr hS hW hlk dX12_ofStone_9
def fX12_worth (x1 : Int32) (M0 : Mem) : Option (Int32 × Mem) :=
  nm (fX12_isStone x1 M0) fun b1 => if b1 = 0 then (some ((-2000000000 : Int32), M0)) else (bE (fX12_findCounts (0 : Int64) (0 : Int64) M0) fun u3 M4 => ix x1 64 <| if (mgI M4 6900 0 x1.toNatClampNeg) = 0 then (some ((-2000000000 : Int32), M4)) else (ix x1 64 <| some (mgI M4 6800 0 x1.toNatClampNeg, M4)))
set_option maxHeartbeats 4000000 in
set_option maxRecDepth 100000 in
theorem mX12_worth {l : Launch} {D : va_G} {cy : Nat → ClassId} {A : Nat → Prop} {Z : State → Heap → Prop} {ad : Nat → Nat → Nat} (hZk : ZOK A Z) (x1 : Int32) (M0 : Mem) (r : Int32) (M' : Mem) (h : fX12_worth x1 M0 = some (r, M')) : Met l yX12_worth (wt yX12_worth cX12_worth 2 (some .int)) (rm 3 80) (CPre D cy A Z cnM ad M0 [.ref (ad 12 0), .int x1]) (QI D cy A cnM ad r M') 0 0 A := by
  refine tb_start [.ref (ad 12 0), .int x1] [(0, .ref (ad 12 0)), (1, .int x1)] RX12 rfl (by decide +kernel) (Nat.le_of_ble_eq_true rfl) rfl (fun p e s m args below meth c hx hb hr hml hown hts hlk hW hK hZ ls hl => ?_)
  have hS : va_S A s.heap s.heap [] := va_S.rf
  unfold fX12_worth at h
  refine lv_aload_n hx hb dX12_worth_0 rfl (lv_at hl 0 rfl) ?_
  refine lv_iload_n hx hb dX12_worth_1 rfl (lv_at hl 1 rfl) ?_
  refine tb_cVZ hZk hx hb hml hown hts hK hZ hW hS [.int x1] (mX12_isStone (l := l) hZk x1 M0 (fX12_isStone x1 M0) rfl) pmX12_isStone tw1415 (Wd.recv hK hW (t := 12) (by decide) cz12 (C := RX12) (T := TX12) (N := 58) rfl) ⟨Nat.le_of_ble_eq_true rfl, Nat.le_of_ble_eq_true rfl⟩ rfl hl.1 (Nat.le_of_ble_eq_true rfl) ⟨Nat.le_refl _, Nat.le_refl _⟩ rfl dX12_worth_2 (fun H locs hW hS hzz => ?_)
  refine lv_topi (fun b1 eb1 => ?_)
  have h := nm_a eb1 h
  have hzb1 : b1 = 0 ∨ b1 = 1 := by rw [eb1]; exact hzz
  refine lv_if_ne (tgt := 11) hx hb dX12_worth_5 (by decide) (fun c2 => ?_) (fun c2 => ?_)
  · have h := sh_f c2 h
    refine lv_aload_n hx hb dX12_worth_11 rfl (lv_at hl 0 rfl) ?_
    refine lv_lconst (v := (0 : Int64)) hx hb dX12_worth_12 (by decide) ?_
    refine lv_lconst (v := (0 : Int64)) hx hb dX12_worth_13 (by decide) ?_
    obtain ⟨u3, M4, hcu3, h⟩ := bE_a h
    refine tb_cVV hZk hx hb hml hown hts hK hZ hW hS [.long (0 : Int64), .long (0 : Int64)] (mX12_findCounts (l := l) hZk (0 : Int64) (0 : Int64) M0 u3 M4 hcu3) pmX12_findCounts tw1455 (Wd.recv hK hW (t := 12) (by decide) cz12 (C := RX12) (T := TX12) (N := 58) rfl) ⟨Nat.le_of_ble_eq_true rfl, Nat.le_of_ble_eq_true rfl⟩ rfl hl.1 (Nat.le_of_ble_eq_true rfl) ⟨Nat.le_refl _, Nat.le_refl _⟩ rfl dX12_worth_14 (fun H locs hW hS => ?_)
    refine lv_aload_n hx hb dX12_worth_17 rfl (lv_at hl 0 rfl) ?_
    refine gtX12_69 hx hb hts hown hK hW cz12 dX12_worth_18 ?_
    refine lv_iload_n hx hb dX12_worth_21 rfl (lv_at hl 1 rfl) ?_
    obtain ⟨hj, h⟩ := ix_a h
    refine al69 hx hb hK hW cz69 hj dX12_worth_22 ?_
    refine lv_if_eq (tgt := 35) hx hb dX12_worth_23 (by decide) (fun c5 => ?_) (fun c5 => ?_)
    · have h := sh_t c5 h
      refine lv_ldc hx hb hown (hts _ tw1479) dX12_worth_35 ?_
      exact tb_iretE h hx hb hr hS hW hlk dX12_worth_37
    · have h := sh_f c5 h
      refine lv_aload_n hx hb dX12_worth_26 rfl (lv_at hl 0 rfl) ?_
      refine gtX12_66 hx hb hts hown hK hW cz12 dX12_worth_27 ?_
      refine lv_iload_n hx hb dX12_worth_30 rfl (lv_at hl 1 rfl) ?_
      obtain ⟨hj, h⟩ := ix_a h
      refine al68 hx hb hK hW cz68 hj dX12_worth_31 ?_
      refine lv_goto (tgt := 37) hx hb dX12_worth_32 (by decide) ?_
      exact tb_iretE h hx hb hr hS hW hlk dX12_worth_37
  · have h := sh_t c2 h
    refine lv_ldc hx hb hown (hts _ tw1479) dX12_worth_8 ?_
    exact tb_iretE h hx hb hr hS hW hlk dX12_worth_10
def fX12_says (x1 : Int32) (M0 : Mem) : Option (Int32 × Mem) :=
  nm (fX12_isStone x1 M0) fun b1 => if b1 = 0 then (some ((-1 : Int32), M0)) else (ix x1 64 <| if (mgI M0 5000 0 x1.toNatClampNeg) = (3 : Int32) then (bE (fX12_findCounts (0 : Int64) (0 : Int64) M0) fun u4 M5 => bd (fX12_isYes x1 M5) fun b6 => if b6 = 0 then (some ((0 : Int32), M5)) else (some ((1 : Int32), M5))) else (some ((-1 : Int32), M0)))
set_option maxHeartbeats 4000000 in
set_option maxRecDepth 100000 in
theorem mX12_says {l : Launch} {D : va_G} {cy : Nat → ClassId} {A : Nat → Prop} {Z : State → Heap → Prop} {ad : Nat → Nat → Nat} (hZk : ZOK A Z) (x1 : Int32) (M0 : Mem) (r : Int32) (M' : Mem) (h : fX12_says x1 M0 = some (r, M')) : Met l yX12_says (wt yX12_says cX12_says 2 (some .int)) (rm 3 80) (CPre D cy A Z cnM ad M0 [.ref (ad 12 0), .int x1]) (QI D cy A cnM ad r M') 0 0 A := by
  refine tb_start [.ref (ad 12 0), .int x1] [(0, .ref (ad 12 0)), (1, .int x1)] RX12 rfl (by decide +kernel) (Nat.le_of_ble_eq_true rfl) rfl (fun p e s m args below meth c hx hb hr hml hown hts hlk hW hK hZ ls hl => ?_)
  have hS : va_S A s.heap s.heap [] := va_S.rf
  unfold fX12_says at h
  refine lv_aload_n hx hb dX12_says_0 rfl (lv_at hl 0 rfl) ?_
  refine lv_iload_n hx hb dX12_says_1 rfl (lv_at hl 1 rfl) ?_
  refine tb_cVZ hZk hx hb hml hown hts hK hZ hW hS [.int x1] (mX12_isStone (l := l) hZk x1 M0 (fX12_isStone x1 M0) rfl) pmX12_isStone tw1415 (Wd.recv hK hW (t := 12) (by decide) cz12 (C := RX12) (T := TX12) (N := 58) rfl) ⟨Nat.le_of_ble_eq_true rfl, Nat.le_of_ble_eq_true rfl⟩ rfl hl.1 (Nat.le_of_ble_eq_true rfl) ⟨Nat.le_refl _, Nat.le_refl _⟩ rfl dX12_says_2 (fun H locs hW hS hzz => ?_)
  refine lv_topi (fun b1 eb1 => ?_)
  have h := nm_a eb1 h
  have hzb1 : b1 = 0 ∨ b1 = 1 := by rw [eb1]; exact hzz
  refine lv_if_eq (tgt := 18) hx hb dX12_says_5 (by decide) (fun c2 => ?_) (fun c2 => ?_)
  · have h := sh_t c2 h
    refine lv_iconst (v := (-1 : Int32)) hx hb dX12_says_18 (by decide) ?_
    exact tb_iretE h hx hb hr hS hW hlk dX12_says_19
  · have h := sh_f c2 h
    refine lv_aload_n hx hb dX12_says_8 rfl (lv_at hl 0 rfl) ?_
    refine gtX12_7 hx hb hts hown hK hW cz12 dX12_says_9 ?_
    refine lv_iload_n hx hb dX12_says_12 rfl (lv_at hl 1 rfl) ?_
    obtain ⟨hj, h⟩ := ix_a h
    refine al50 hx hb hK hW cz50 hj dX12_says_13 ?_
    refine lv_iconst (v := (3 : Int32)) hx hb dX12_says_14 (by decide) ?_
    refine lv_icmp_eq (tgt := 20) hx hb dX12_says_15 (by decide) (fun c3 => ?_) (fun c3 => ?_)
    · have h := sh_t c3 h
      refine lv_aload_n hx hb dX12_says_20 rfl (lv_at hl 0 rfl) ?_
      refine lv_lconst (v := (0 : Int64)) hx hb dX12_says_21 (by decide) ?_
      refine lv_lconst (v := (0 : Int64)) hx hb dX12_says_22 (by decide) ?_
      obtain ⟨u4, M5, hcu4, h⟩ := bE_a h
      refine tb_cVV hZk hx hb hml hown hts hK hZ hW hS [.long (0 : Int64), .long (0 : Int64)] (mX12_findCounts (l := l) hZk (0 : Int64) (0 : Int64) M0 u4 M5 hcu4) pmX12_findCounts tw1455 (Wd.recv hK hW (t := 12) (by decide) cz12 (C := RX12) (T := TX12) (N := 58) rfl) ⟨Nat.le_of_ble_eq_true rfl, Nat.le_of_ble_eq_true rfl⟩ rfl hl.1 (Nat.le_of_ble_eq_true rfl) ⟨Nat.le_refl _, Nat.le_refl _⟩ rfl dX12_says_23 (fun H locs hW hS => ?_)
      refine lv_aload_n hx hb dX12_says_26 rfl (lv_at hl 0 rfl) ?_
      refine lv_iload_n hx hb dX12_says_27 rfl (lv_at hl 1 rfl) ?_
      obtain ⟨b6, hcb6, h⟩ := bd_a h
      refine tb_cVZ hZk hx hb hml hown hts hK hZ hW hS [.int x1] (mX12_isYes (l := l) hZk x1 M5 b6 hcb6) pmX12_isYes tw1484 (Wd.recv hK hW (t := 12) (by decide) cz12 (C := RX12) (T := TX12) (N := 58) rfl) ⟨Nat.le_of_ble_eq_true rfl, Nat.le_of_ble_eq_true rfl⟩ rfl hl.1 (Nat.le_of_ble_eq_true rfl) ⟨Nat.le_refl _, Nat.le_refl _⟩ rfl dX12_says_28 (fun H locs hW hS hzz => ?_)
      have hzb6 := hzz
      refine lv_if_eq (tgt := 38) hx hb dX12_says_31 (by decide) (fun c7 => ?_) (fun c7 => ?_)
      · have h := sh_t c7 h
        refine lv_iconst (v := (0 : Int32)) hx hb dX12_says_38 (by decide) ?_
        exact tb_iretE h hx hb hr hS hW hlk dX12_says_39
      · have h := sh_f c7 h
        refine lv_iconst (v := (1 : Int32)) hx hb dX12_says_34 (by decide) ?_
        refine lv_goto (tgt := 39) hx hb dX12_says_35 (by decide) ?_
        exact tb_iretE h hx hb hr hS hW hlk dX12_says_39
    · have h := sh_f c3 h
      refine lv_iconst (v := (-1 : Int32)) hx hb dX12_says_18 (by decide) ?_
      exact tb_iretE h hx hb hr hS hW hlk dX12_says_19
def fX12_ofLine (x1 : Int32) (x2 : Int32) (M0 : Mem) : Option Int32 :=
  nm (fX12_isLine x1 M0) fun b1 => if b1 = 0 then (some (-1 : Int32)) else (if x2 = (0 : Int32) then (ix x1 200 <| some (mgI M0 5900 0 x1.toNatClampNeg)) else if x2 = (1 : Int32) then (ix x1 200 <| some (mgI M0 6000 0 x1.toNatClampNeg)) else if x2 = (2 : Int32) then (ix x1 200 <| some (mgI M0 6100 0 x1.toNatClampNeg)) else if x2 = (3 : Int32) then (ix x1 200 <| some (mgI M0 6200 0 x1.toNatClampNeg)) else if x2 = (4 : Int32) then (ix x1 200 <| if (mgI M0 6300 0 x1.toNatClampNeg) = 0 then (some (0 : Int32)) else (some (1 : Int32))) else some (-1 : Int32))
set_option maxHeartbeats 4000000 in
set_option maxRecDepth 100000 in
theorem mX12_ofLine {l : Launch} {D : va_G} {cy : Nat → ClassId} {A : Nat → Prop} {Z : State → Heap → Prop} {ad : Nat → Nat → Nat} (hZk : ZOK A Z) (x1 : Int32) (x2 : Int32) (M0 : Mem) (r : Int32) (h : fX12_ofLine x1 x2 M0 = some r) : Met l yX12_ofLine (wt yX12_ofLine cX12_ofLine 3 (some .int)) (rm 2 43) (CPre D cy A Z cnM ad M0 [.ref (ad 12 0), .int x1, .int x2]) (QI D cy A cnM ad r M0) 0 0 A := by
  refine tb_start [.ref (ad 12 0), .int x1, .int x2] [(0, .ref (ad 12 0)), (1, .int x1), (2, .int x2)] RX12 rfl (by decide +kernel) (Nat.le_of_ble_eq_true rfl) rfl (fun p e s m args below meth c hx hb hr hml hown hts hlk hW hK hZ ls hl => ?_)
  have hS : va_S A s.heap s.heap [] := va_S.rf
  unfold fX12_ofLine at h
  refine lv_aload_n hx hb dX12_ofLine_0 rfl (lv_at hl 0 rfl) ?_
  refine lv_iload_n hx hb dX12_ofLine_1 rfl (lv_at hl 1 rfl) ?_
  refine tb_cVZ hZk hx hb hml hown hts hK hZ hW hS [.int x1] (mX12_isLine (l := l) hZk x1 M0 (fX12_isLine x1 M0) rfl) pmX12_isLine tw1492 (Wd.recv hK hW (t := 12) (by decide) cz12 (C := RX12) (T := TX12) (N := 58) rfl) ⟨Nat.le_of_ble_eq_true rfl, Nat.le_of_ble_eq_true rfl⟩ rfl hl.1 (Nat.le_of_ble_eq_true rfl) ⟨Nat.le_refl _, Nat.le_refl _⟩ rfl dX12_ofLine_2 (fun H locs hW hS hzz => ?_)
  refine lv_topi (fun b1 eb1 => ?_)
  have h := nm_a eb1 h
  have hzb1 : b1 = 0 ∨ b1 = 1 := by rw [eb1]; exact hzz
  refine lv_if_ne (tgt := 10) hx hb dX12_ofLine_5 (by decide) (fun c2 => ?_) (fun c2 => ?_)
  · have h := sh_f c2 h
    refine lv_iload_n hx hb dX12_ofLine_10 rfl (lv_at hl 2 rfl) ?_
    by_cases c3 : x2 = (0 : Int32)
    · have h := sh_t c3 h
      refine lv_tableIn (off := 33) (tgt := 44) hx hb dX12_ofLine_11 (by rw [c3]; decide) (by rw [c3]; decide) (by rw [c3]; rfl) (by decide) ?_
      refine lv_aload_n hx hb dX12_ofLine_44 rfl (lv_at hl 0 rfl) ?_
      refine gtX12_38 hx hb hts hown hK hW cz12 dX12_ofLine_45 ?_
      refine lv_iload_n hx hb dX12_ofLine_48 rfl (lv_at hl 1 rfl) ?_
      obtain ⟨hj, h⟩ := ix_a h
      refine al59 hx hb hK hW cz59 hj dX12_ofLine_49 ?_
      exact tb_iretO h hx hb hr hS hW hlk dX12_ofLine_50
    · have h := sh_f c3 h
      by_cases c4 : x2 = (1 : Int32)
      · have h := sh_t c4 h
        refine lv_tableIn (off := 40) (tgt := 51) hx hb dX12_ofLine_11 (by rw [c4]; decide) (by rw [c4]; decide) (by rw [c4]; rfl) (by decide) ?_
        refine lv_aload_n hx hb dX12_ofLine_51 rfl (lv_at hl 0 rfl) ?_
        refine gtX12_41 hx hb hts hown hK hW cz12 dX12_ofLine_52 ?_
        refine lv_iload_n hx hb dX12_ofLine_55 rfl (lv_at hl 1 rfl) ?_
        obtain ⟨hj, h⟩ := ix_a h
        refine al60 hx hb hK hW cz60 hj dX12_ofLine_56 ?_
        exact tb_iretO h hx hb hr hS hW hlk dX12_ofLine_57
      · have h := sh_f c4 h
        by_cases c5 : x2 = (2 : Int32)
        · have h := sh_t c5 h
          refine lv_tableIn (off := 47) (tgt := 58) hx hb dX12_ofLine_11 (by rw [c5]; decide) (by rw [c5]; decide) (by rw [c5]; rfl) (by decide) ?_
          refine lv_aload_n hx hb dX12_ofLine_58 rfl (lv_at hl 0 rfl) ?_
          refine gtX12_44 hx hb hts hown hK hW cz12 dX12_ofLine_59 ?_
          refine lv_iload_n hx hb dX12_ofLine_62 rfl (lv_at hl 1 rfl) ?_
          obtain ⟨hj, h⟩ := ix_a h
          refine al61 hx hb hK hW cz61 hj dX12_ofLine_63 ?_
          exact tb_iretO h hx hb hr hS hW hlk dX12_ofLine_64
        · have h := sh_f c5 h
          by_cases c6 : x2 = (3 : Int32)
          · have h := sh_t c6 h
            refine lv_tableIn (off := 54) (tgt := 65) hx hb dX12_ofLine_11 (by rw [c6]; decide) (by rw [c6]; decide) (by rw [c6]; rfl) (by decide) ?_
            refine lv_aload_n hx hb dX12_ofLine_65 rfl (lv_at hl 0 rfl) ?_
            refine gtX12_47 hx hb hts hown hK hW cz12 dX12_ofLine_66 ?_
            refine lv_iload_n hx hb dX12_ofLine_69 rfl (lv_at hl 1 rfl) ?_
            obtain ⟨hj, h⟩ := ix_a h
            refine al62 hx hb hK hW cz62 hj dX12_ofLine_70 ?_
            exact tb_iretO h hx hb hr hS hW hlk dX12_ofLine_71
          · have h := sh_f c6 h
            by_cases c7 : x2 = (4 : Int32)
            · have h := sh_t c7 h
              refine lv_tableIn (off := 61) (tgt := 72) hx hb dX12_ofLine_11 (by rw [c7]; decide) (by rw [c7]; decide) (by rw [c7]; rfl) (by decide) ?_
              refine lv_aload_n hx hb dX12_ofLine_72 rfl (lv_at hl 0 rfl) ?_
              refine gtX12_50 hx hb hts hown hK hW cz12 dX12_ofLine_73 ?_
              refine lv_iload_n hx hb dX12_ofLine_76 rfl (lv_at hl 1 rfl) ?_
              obtain ⟨hj, h⟩ := ix_a h
              refine al63 hx hb hK hW cz63 hj dX12_ofLine_77 ?_
              refine lv_if_eq (tgt := 85) hx hb dX12_ofLine_78 (by decide) (fun c8 => ?_) (fun c8 => ?_)
              · have h := sh_t c8 h
                refine lv_iconst (v := (0 : Int32)) hx hb dX12_ofLine_85 (by decide) ?_
                exact tb_iretO h hx hb hr hS hW hlk dX12_ofLine_86
              · have h := sh_f c8 h
                refine lv_iconst (v := (1 : Int32)) hx hb dX12_ofLine_81 (by decide) ?_
                refine lv_goto (tgt := 86) hx hb dX12_ofLine_82 (by decide) ?_
                exact tb_iretO h hx hb hr hS hW hlk dX12_ofLine_86
            · have h := sh_f c7 h
              refine lv_tableOut (tgt := 87) hx hb dX12_ofLine_11 (sw_out x2 (by decide) (fun z h1 h2 => by
                rcases (show z = 0 ∨ z = 1 ∨ z = 2 ∨ z = 3 ∨ z = 4 by omega) with rfl | rfl | rfl | rfl | rfl <;> first | exact fun e => c3 (Int32.toInt_inj.mp (e.trans (by decide))) | exact fun e => c4 (Int32.toInt_inj.mp (e.trans (by decide))) | exact fun e => c5 (Int32.toInt_inj.mp (e.trans (by decide))) | exact fun e => c6 (Int32.toInt_inj.mp (e.trans (by decide))) | exact fun e => c7 (Int32.toInt_inj.mp (e.trans (by decide))))) (by decide) ?_
              refine lv_iconst (v := (-1 : Int32)) hx hb dX12_ofLine_87 (by decide) ?_
              exact tb_iretO h hx hb hr hS hW hlk dX12_ofLine_88
  · have h := sh_t c2 h
    refine lv_iconst (v := (-1 : Int32)) hx hb dX12_ofLine_8 (by decide) ?_
    exact tb_iretO h hx hb hr hS hW hlk dX12_ofLine_9
def fX12_set (x1 : Int32) (x2 : Int32) (x3 : Int32) (M0 : Mem) : Option (Unit × Mem) :=
  if x1 = 0 then (ix x2 200 <| nm (msI M0 6100 0 x2.toNatClampNeg x3) fun M5 => some ((), M5)) else (if x1 = (1 : Int32) then (ix x2 200 <| nm (msI M0 6200 0 x2.toNatClampNeg x3) fun M4 => some ((), M4)) else (ix x2 60 <| nm (msI M0 8600 0 x2.toNatClampNeg x3) fun M3 => some ((), M3)))
set_option maxHeartbeats 4000000 in
set_option maxRecDepth 100000 in
theorem mX12_set {l : Launch} {D : va_G} {cy : Nat → ClassId} {A : Nat → Prop} {Z : State → Heap → Prop} {ad : Nat → Nat → Nat} (hZk : ZOK A Z) (x1 : Int32) (x2 : Int32) (x3 : Int32) (M0 : Mem) (r : Unit) (M' : Mem) (h : fX12_set x1 x2 x3 M0 = some (r, M')) : Met l yX12_set (wt yX12_set cX12_set 4 none) (rm 0 0) (CPre D cy A Z cnM ad M0 [.ref (ad 12 0), .int x1, .int x2, .int x3]) (QV D cy A cnM ad r M') 0 0 A := by
  refine tb_start [.ref (ad 12 0), .int x1, .int x2, .int x3] [(0, .ref (ad 12 0)), (1, .int x1), (2, .int x2), (3, .int x3)] RX12 rfl (by decide +kernel) (Nat.le_of_ble_eq_true rfl) rfl (fun p e s m args below meth c hx hb hr hml hown hts hlk hW hK hZ ls hl => ?_)
  have hS : va_S A s.heap s.heap [] := va_S.rf
  unfold fX12_set at h
  refine lv_iload_n hx hb dX12_set_0 rfl (lv_at hl 1 rfl) ?_
  refine lv_if_ne (tgt := 14) hx hb dX12_set_1 (by decide) (fun c1 => ?_) (fun c1 => ?_)
  · have h := sh_f c1 h
    refine lv_iload_n hx hb dX12_set_14 rfl (lv_at hl 1 rfl) ?_
    refine lv_iconst (v := (1 : Int32)) hx hb dX12_set_15 (by decide) ?_
    refine lv_icmp_ne (tgt := 29) hx hb dX12_set_16 (by decide) (fun c2 => ?_) (fun c2 => ?_)
    · have h := sh_f c2 h
      refine lv_aload_n hx hb dX12_set_29 rfl (lv_at hl 0 rfl) ?_
      refine gtX12_122 hx hb hts hown hK hW cz12 dX12_set_30 ?_
      refine lv_iload_n hx hb dX12_set_33 rfl (lv_at hl 2 rfl) ?_
      refine lv_iload_n hx hb dX12_set_34 rfl (lv_at hl 3 rfl) ?_
      obtain ⟨hj, h⟩ := ix_a h
      refine as86 hx hb hK hW hS cz86 hj dX12_set_35 (fun H locs hW hS => ?_)
      obtain ⟨M3, eM3⟩ : ∃ y, y = msI M0 8600 0 x2.toNatClampNeg x3 := ⟨_, rfl⟩
      have h := nm_a eM3 h
      rw [← eM3] at hW
      exact tb_vretE h hx hb hr hS hW hlk dX12_set_36
    · have h := sh_t c2 h
      refine lv_aload_n hx hb dX12_set_19 rfl (lv_at hl 0 rfl) ?_
      refine gtX12_47 hx hb hts hown hK hW cz12 dX12_set_20 ?_
      refine lv_iload_n hx hb dX12_set_23 rfl (lv_at hl 2 rfl) ?_
      refine lv_iload_n hx hb dX12_set_24 rfl (lv_at hl 3 rfl) ?_
      obtain ⟨hj, h⟩ := ix_a h
      refine as62 hx hb hK hW hS cz62 hj dX12_set_25 (fun H locs hW hS => ?_)
      obtain ⟨M4, eM4⟩ : ∃ y, y = msI M0 6200 0 x2.toNatClampNeg x3 := ⟨_, rfl⟩
      have h := nm_a eM4 h
      rw [← eM4] at hW
      refine lv_goto (tgt := 36) hx hb dX12_set_26 (by decide) ?_
      exact tb_vretE h hx hb hr hS hW hlk dX12_set_36
  · have h := sh_t c1 h
    refine lv_aload_n hx hb dX12_set_4 rfl (lv_at hl 0 rfl) ?_
    refine gtX12_44 hx hb hts hown hK hW cz12 dX12_set_5 ?_
    refine lv_iload_n hx hb dX12_set_8 rfl (lv_at hl 2 rfl) ?_
    refine lv_iload_n hx hb dX12_set_9 rfl (lv_at hl 3 rfl) ?_
    obtain ⟨hj, h⟩ := ix_a h
    refine as61 hx hb hK hW hS cz61 hj dX12_set_10 (fun H locs hW hS => ?_)
    obtain ⟨M5, eM5⟩ : ∃ y, y = msI M0 6100 0 x2.toNatClampNeg x3 := ⟨_, rfl⟩
    have h := nm_a eM5 h
    rw [← eM5] at hW
    refine lv_goto (tgt := 36) hx hb dX12_set_11 (by decide) ?_
    exact tb_vretE h hx hb hr hS hW hlk dX12_set_36
def fX12_changes_b61 (x1 : Int32) (x2 : Int32) (v3 : Int32) (x3 : Int32) (k15 : Int32 → Mem → Option (Int32 × Mem)) (i16 : Int32) (M17 : Mem) : Option (Int32 × Mem) :=
  if (40 : Int32) ≤ i16 then (nm ((mgI M17 1224 0 0) - (1 : Int32)) fun v19 => nm (msI M17 1224 0 0 v19) fun M20 => ix (mgI M20 1224 0 0) 40 <| nm (msI M20 7000 0 ((mgI M20 1224 0 0).toNatClampNeg) x1) fun M21 => ix (mgI M21 1224 0 0) 40 <| nm (msI M21 7100 0 ((mgI M21 1224 0 0).toNatClampNeg) x2) fun M22 => ix (mgI M22 1224 0 0) 40 <| nm (msI M22 7200 0 ((mgI M22 1224 0 0).toNatClampNeg) v3) fun M23 => ix (mgI M23 1224 0 0) 40 <| nm (msI M23 7300 0 ((mgI M23 1224 0 0).toNatClampNeg) x3) fun M24 => nm ((mgI M24 1224 0 0) + (1 : Int32)) fun v25 => nm (msI M24 1224 0 0 v25) fun M26 => bE (fX12_set x1 x2 x3 M26) fun u27 M28 => some (v3, M28)) else (ix i16 40 <| nm (mgI M17 7000 0 i16.toNatClampNeg) fun v29 => ix (i16 - (1 : Int32)) 40 <| nm (msI M17 7000 0 ((i16 - (1 : Int32)).toNatClampNeg) v29) fun M30 => ix i16 40 <| nm (mgI M30 7100 0 i16.toNatClampNeg) fun v31 => ix (i16 - (1 : Int32)) 40 <| nm (msI M30 7100 0 ((i16 - (1 : Int32)).toNatClampNeg) v31) fun M32 => ix i16 40 <| nm (mgI M32 7200 0 i16.toNatClampNeg) fun v33 => ix (i16 - (1 : Int32)) 40 <| nm (msI M32 7200 0 ((i16 - (1 : Int32)).toNatClampNeg) v33) fun M34 => ix i16 40 <| nm (mgI M34 7300 0 i16.toNatClampNeg) fun v35 => ix (i16 - (1 : Int32)) 40 <| nm (msI M34 7300 0 ((i16 - (1 : Int32)).toNatClampNeg) v35) fun M36 => nm (i16 + (1 : Int32)) fun v37 => k15 v37 M36)
def fX12_changes_l61 (x1 : Int32) (x2 : Int32) (v3 : Int32) (x3 : Int32) : Nat → Int32 → Mem → Option (Int32 × Mem)
  | 0, _, _ => none
  | n + 1, i16, M17 => fX12_changes_b61 x1 x2 v3 x3 (fX12_changes_l61 x1 x2 v3 x3 n) i16 M17
def fX12_changes_b61_50 (x1 : Int32) (x2 : Int32) (v38 : Int32) (x3 : Int32) (k50 : Int32 → Mem → Option (Int32 × Mem)) (i51 : Int32) (M52 : Mem) : Option (Int32 × Mem) :=
  if (40 : Int32) ≤ i51 then (nm ((mgI M52 1224 0 0) - (1 : Int32)) fun v54 => nm (msI M52 1224 0 0 v54) fun M55 => ix (mgI M55 1224 0 0) 40 <| nm (msI M55 7000 0 ((mgI M55 1224 0 0).toNatClampNeg) x1) fun M56 => ix (mgI M56 1224 0 0) 40 <| nm (msI M56 7100 0 ((mgI M56 1224 0 0).toNatClampNeg) x2) fun M57 => ix (mgI M57 1224 0 0) 40 <| nm (msI M57 7200 0 ((mgI M57 1224 0 0).toNatClampNeg) v38) fun M58 => ix (mgI M58 1224 0 0) 40 <| nm (msI M58 7300 0 ((mgI M58 1224 0 0).toNatClampNeg) x3) fun M59 => nm ((mgI M59 1224 0 0) + (1 : Int32)) fun v60 => nm (msI M59 1224 0 0 v60) fun M61 => bE (fX12_set x1 x2 x3 M61) fun u62 M63 => some (v38, M63)) else (ix i51 40 <| nm (mgI M52 7000 0 i51.toNatClampNeg) fun v64 => ix (i51 - (1 : Int32)) 40 <| nm (msI M52 7000 0 ((i51 - (1 : Int32)).toNatClampNeg) v64) fun M65 => ix i51 40 <| nm (mgI M65 7100 0 i51.toNatClampNeg) fun v66 => ix (i51 - (1 : Int32)) 40 <| nm (msI M65 7100 0 ((i51 - (1 : Int32)).toNatClampNeg) v66) fun M67 => ix i51 40 <| nm (mgI M67 7200 0 i51.toNatClampNeg) fun v68 => ix (i51 - (1 : Int32)) 40 <| nm (msI M67 7200 0 ((i51 - (1 : Int32)).toNatClampNeg) v68) fun M69 => ix i51 40 <| nm (mgI M69 7300 0 i51.toNatClampNeg) fun v70 => ix (i51 - (1 : Int32)) 40 <| nm (msI M69 7300 0 ((i51 - (1 : Int32)).toNatClampNeg) v70) fun M71 => nm (i51 + (1 : Int32)) fun v72 => k50 v72 M71)
def fX12_changes_l61_50 (x1 : Int32) (x2 : Int32) (v38 : Int32) (x3 : Int32) : Nat → Int32 → Mem → Option (Int32 × Mem)
  | 0, _, _ => none
  | n + 1, i51, M52 => fX12_changes_b61_50 x1 x2 v38 x3 (fX12_changes_l61_50 x1 x2 v38 x3 n) i51 M52
def fX12_changes_b61_85 (x1 : Int32) (x2 : Int32) (v73 : Int32) (x3 : Int32) (k85 : Int32 → Mem → Option (Int32 × Mem)) (i86 : Int32) (M87 : Mem) : Option (Int32 × Mem) :=
  if (40 : Int32) ≤ i86 then (nm ((mgI M87 1224 0 0) - (1 : Int32)) fun v89 => nm (msI M87 1224 0 0 v89) fun M90 => ix (mgI M90 1224 0 0) 40 <| nm (msI M90 7000 0 ((mgI M90 1224 0 0).toNatClampNeg) x1) fun M91 => ix (mgI M91 1224 0 0) 40 <| nm (msI M91 7100 0 ((mgI M91 1224 0 0).toNatClampNeg) x2) fun M92 => ix (mgI M92 1224 0 0) 40 <| nm (msI M92 7200 0 ((mgI M92 1224 0 0).toNatClampNeg) v73) fun M93 => ix (mgI M93 1224 0 0) 40 <| nm (msI M93 7300 0 ((mgI M93 1224 0 0).toNatClampNeg) x3) fun M94 => nm ((mgI M94 1224 0 0) + (1 : Int32)) fun v95 => nm (msI M94 1224 0 0 v95) fun M96 => bE (fX12_set x1 x2 x3 M96) fun u97 M98 => some (v73, M98)) else (ix i86 40 <| nm (mgI M87 7000 0 i86.toNatClampNeg) fun v99 => ix (i86 - (1 : Int32)) 40 <| nm (msI M87 7000 0 ((i86 - (1 : Int32)).toNatClampNeg) v99) fun M100 => ix i86 40 <| nm (mgI M100 7100 0 i86.toNatClampNeg) fun v101 => ix (i86 - (1 : Int32)) 40 <| nm (msI M100 7100 0 ((i86 - (1 : Int32)).toNatClampNeg) v101) fun M102 => ix i86 40 <| nm (mgI M102 7200 0 i86.toNatClampNeg) fun v103 => ix (i86 - (1 : Int32)) 40 <| nm (msI M102 7200 0 ((i86 - (1 : Int32)).toNatClampNeg) v103) fun M104 => ix i86 40 <| nm (mgI M104 7300 0 i86.toNatClampNeg) fun v105 => ix (i86 - (1 : Int32)) 40 <| nm (msI M104 7300 0 ((i86 - (1 : Int32)).toNatClampNeg) v105) fun M106 => nm (i86 + (1 : Int32)) fun v107 => k85 v107 M106)
def fX12_changes_l61_85 (x1 : Int32) (x2 : Int32) (v73 : Int32) (x3 : Int32) : Nat → Int32 → Mem → Option (Int32 × Mem)
  | 0, _, _ => none
  | n + 1, i86, M87 => fX12_changes_b61_85 x1 x2 v73 x3 (fX12_changes_l61_85 x1 x2 v73 x3 n) i86 M87
def fX12_changes (x1 : Int32) (x2 : Int32) (x3 : Int32) (M0 : Mem) : Option (Int32 × Mem) :=
  if x1 = 0 then (ix x2 200 <| nm (mgI M0 6100 0 x2.toNatClampNeg) fun v73 => if v73 = x3 then (some (v73, M0)) else (nm (msI M0 1225 0 0 (0 : Int32)) fun M75 => if (mgI M75 1224 0 0) = (40 : Int32) then (fX12_changes_l61_85 x1 x2 v73 x3 FU (1 : Int32) M75) else (ix (mgI M75 1224 0 0) 40 <| nm (msI M75 7000 0 ((mgI M75 1224 0 0).toNatClampNeg) x1) fun M77 => ix (mgI M77 1224 0 0) 40 <| nm (msI M77 7100 0 ((mgI M77 1224 0 0).toNatClampNeg) x2) fun M78 => ix (mgI M78 1224 0 0) 40 <| nm (msI M78 7200 0 ((mgI M78 1224 0 0).toNatClampNeg) v73) fun M79 => ix (mgI M79 1224 0 0) 40 <| nm (msI M79 7300 0 ((mgI M79 1224 0 0).toNatClampNeg) x3) fun M80 => nm ((mgI M80 1224 0 0) + (1 : Int32)) fun v81 => nm (msI M80 1224 0 0 v81) fun M82 => bE (fX12_set x1 x2 x3 M82) fun u83 M84 => some (v73, M84)))) else (if x1 = (1 : Int32) then (ix x2 200 <| nm (mgI M0 6200 0 x2.toNatClampNeg) fun v38 => if v38 = x3 then (some (v38, M0)) else (nm (msI M0 1225 0 0 (0 : Int32)) fun M40 => if (mgI M40 1224 0 0) = (40 : Int32) then (fX12_changes_l61_50 x1 x2 v38 x3 FU (1 : Int32) M40) else (ix (mgI M40 1224 0 0) 40 <| nm (msI M40 7000 0 ((mgI M40 1224 0 0).toNatClampNeg) x1) fun M42 => ix (mgI M42 1224 0 0) 40 <| nm (msI M42 7100 0 ((mgI M42 1224 0 0).toNatClampNeg) x2) fun M43 => ix (mgI M43 1224 0 0) 40 <| nm (msI M43 7200 0 ((mgI M43 1224 0 0).toNatClampNeg) v38) fun M44 => ix (mgI M44 1224 0 0) 40 <| nm (msI M44 7300 0 ((mgI M44 1224 0 0).toNatClampNeg) x3) fun M45 => nm ((mgI M45 1224 0 0) + (1 : Int32)) fun v46 => nm (msI M45 1224 0 0 v46) fun M47 => bE (fX12_set x1 x2 x3 M47) fun u48 M49 => some (v38, M49)))) else (ix x2 60 <| nm (mgI M0 8600 0 x2.toNatClampNeg) fun v3 => if v3 = x3 then (some (v3, M0)) else (nm (msI M0 1225 0 0 (0 : Int32)) fun M5 => if (mgI M5 1224 0 0) = (40 : Int32) then (fX12_changes_l61 x1 x2 v3 x3 FU (1 : Int32) M5) else (ix (mgI M5 1224 0 0) 40 <| nm (msI M5 7000 0 ((mgI M5 1224 0 0).toNatClampNeg) x1) fun M7 => ix (mgI M7 1224 0 0) 40 <| nm (msI M7 7100 0 ((mgI M7 1224 0 0).toNatClampNeg) x2) fun M8 => ix (mgI M8 1224 0 0) 40 <| nm (msI M8 7200 0 ((mgI M8 1224 0 0).toNatClampNeg) v3) fun M9 => ix (mgI M9 1224 0 0) 40 <| nm (msI M9 7300 0 ((mgI M9 1224 0 0).toNatClampNeg) x3) fun M10 => nm ((mgI M10 1224 0 0) + (1 : Int32)) fun v11 => nm (msI M10 1224 0 0 v11) fun M12 => bE (fX12_set x1 x2 x3 M12) fun u13 M14 => some (v3, M14)))))
set_option maxHeartbeats 4000000 in
set_option maxRecDepth 100000 in
theorem mX12_changes {l : Launch} {D : va_G} {cy : Nat → ClassId} {A : Nat → Prop} {Z : State → Heap → Prop} {ad : Nat → Nat → Nat} (hZk : ZOK A Z) (x1 : Int32) (x2 : Int32) (x3 : Int32) (M0 : Mem) (r : Int32) (M' : Mem) (h : fX12_changes x1 x2 x3 M0 = some (r, M')) : Met l yX12_changes (wt yX12_changes cX12_changes 6 (some .int)) (rm 1 23) (CPre D cy A Z cnM ad M0 [.ref (ad 12 0), .int x1, .int x2, .int x3]) (QI D cy A cnM ad r M') 0 0 A := by
  refine tb_start [.ref (ad 12 0), .int x1, .int x2, .int x3] [(0, .ref (ad 12 0)), (1, .int x1), (2, .int x2), (3, .int x3)] RX12 rfl (by decide +kernel) (Nat.le_of_ble_eq_true rfl) rfl (fun p e s m args below meth c hx hb hr hml hown hts hlk hW hK hZ ls hl => ?_)
  have hS : va_S A s.heap s.heap [] := va_S.rf
  unfold fX12_changes at h
  refine lv_iload_n hx hb dX12_changes_0 rfl (lv_at hl 1 rfl) ?_
  refine lv_if_ne (tgt := 13) hx hb dX12_changes_1 (by decide) (fun c1 => ?_) (fun c1 => ?_)
  · have h := sh_f c1 h
    refine lv_iload_n hx hb dX12_changes_13 rfl (lv_at hl 1 rfl) ?_
    refine lv_iconst (v := (1 : Int32)) hx hb dX12_changes_14 (by decide) ?_
    refine lv_icmp_ne (tgt := 27) hx hb dX12_changes_15 (by decide) (fun c2 => ?_) (fun c2 => ?_)
    · have h := sh_f c2 h
      refine lv_aload_n hx hb dX12_changes_27 rfl (lv_at hl 0 rfl) ?_
      refine gtX12_122 hx hb hts hown hK hW cz12 dX12_changes_28 ?_
      refine lv_iload_n hx hb dX12_changes_31 rfl (lv_at hl 2 rfl) ?_
      obtain ⟨hj, h⟩ := ix_a h
      refine al86 hx hb hK hW cz86 hj dX12_changes_32 ?_
      refine lv_topi (fun v3 ev3 => ?_)
      have h := nm_a ev3 h
      refine lv_istore (lv' := [(4, .int v3), (0, .ref (ad 12 0)), (1, .int x1), (2, .int x2), (3, .int x3)]) hx hb dX12_changes_33 hl (by decide) rfl (fun ls hl => ?_)
      refine lv_iload hx hb dX12_changes_35 (lv_at hl 0 rfl) ?_
      refine lv_iload_n hx hb dX12_changes_37 rfl (lv_at hl 4 rfl) ?_
      refine lv_icmp_ne (tgt := 44) hx hb dX12_changes_38 (by decide) (fun c4 => ?_) (fun c4 => ?_)
      · have h := sh_f c4 h
        refine lv_aload_n hx hb dX12_changes_44 rfl (lv_at hl 1 rfl) ?_
        refine lv_iconst (v := (0 : Int32)) hx hb dX12_changes_45 (by decide) ?_
        refine ptX12_231 hx hb hts hown hK hW hS cz12 dX12_changes_46 (fun H locs hW hS => ?_)
        obtain ⟨M5, eM5⟩ : ∃ y, y = msI M0 1225 0 0 (0 : Int32) := ⟨_, rfl⟩
        have h := nm_a eM5 h
        rw [← eM5] at hW
        refine lv_aload_n hx hb dX12_changes_49 rfl (lv_at hl 1 rfl) ?_
        refine gtX12_234 hx hb hts hown hK hW cz12 dX12_changes_50 ?_
        refine lv_bipush (v := (40 : Int32)) hx hb dX12_changes_53 (by decide) ?_
        refine lv_icmp_ne (tgt := 148) hx hb dX12_changes_55 (by decide) (fun c6 => ?_) (fun c6 => ?_)
        · have h := sh_f c6 h
          refine lv_aload_n hx hb dX12_changes_148 rfl (lv_at hl 1 rfl) ?_
          refine gtX12_72 hx hb hts hown hK hW cz12 dX12_changes_149 ?_
          refine lv_aload_n hx hb dX12_changes_152 rfl (lv_at hl 1 rfl) ?_
          refine gtX12_234 hx hb hts hown hK hW cz12 dX12_changes_153 ?_
          refine lv_iload_n hx hb dX12_changes_156 rfl (lv_at hl 2 rfl) ?_
          obtain ⟨hj, h⟩ := ix_a h
          refine as70 hx hb hK hW hS cz70 hj dX12_changes_157 (fun H locs hW hS => ?_)
          obtain ⟨M7, eM7⟩ : ∃ y, y = msI M5 7000 0 ((mgI M5 1224 0 0).toNatClampNeg) x1 := ⟨_, rfl⟩
          have h := nm_a eM7 h
          rw [← eM7] at hW
          refine lv_aload_n hx hb dX12_changes_158 rfl (lv_at hl 1 rfl) ?_
          refine gtX12_75 hx hb hts hown hK hW cz12 dX12_changes_159 ?_
          refine lv_aload_n hx hb dX12_changes_162 rfl (lv_at hl 1 rfl) ?_
          refine gtX12_234 hx hb hts hown hK hW cz12 dX12_changes_163 ?_
          refine lv_iload_n hx hb dX12_changes_166 rfl (lv_at hl 3 rfl) ?_
          obtain ⟨hj, h⟩ := ix_a h
          refine as71 hx hb hK hW hS cz71 hj dX12_changes_167 (fun H locs hW hS => ?_)
          obtain ⟨M8, eM8⟩ : ∃ y, y = msI M7 7100 0 ((mgI M7 1224 0 0).toNatClampNeg) x2 := ⟨_, rfl⟩
          have h := nm_a eM8 h
          rw [← eM8] at hW
          refine lv_aload_n hx hb dX12_changes_168 rfl (lv_at hl 1 rfl) ?_
          refine gtX12_78 hx hb hts hown hK hW cz12 dX12_changes_169 ?_
          refine lv_aload_n hx hb dX12_changes_172 rfl (lv_at hl 1 rfl) ?_
          refine gtX12_234 hx hb hts hown hK hW cz12 dX12_changes_173 ?_
          refine lv_iload hx hb dX12_changes_176 (lv_at hl 0 rfl) ?_
          obtain ⟨hj, h⟩ := ix_a h
          refine as72 hx hb hK hW hS cz72 hj dX12_changes_178 (fun H locs hW hS => ?_)
          obtain ⟨M9, eM9⟩ : ∃ y, y = msI M8 7200 0 ((mgI M8 1224 0 0).toNatClampNeg) v3 := ⟨_, rfl⟩
          have h := nm_a eM9 h
          rw [← eM9] at hW
          refine lv_aload_n hx hb dX12_changes_179 rfl (lv_at hl 1 rfl) ?_
          refine gtX12_81 hx hb hts hown hK hW cz12 dX12_changes_180 ?_
          refine lv_aload_n hx hb dX12_changes_183 rfl (lv_at hl 1 rfl) ?_
          refine gtX12_234 hx hb hts hown hK hW cz12 dX12_changes_184 ?_
          refine lv_iload_n hx hb dX12_changes_187 rfl (lv_at hl 4 rfl) ?_
          obtain ⟨hj, h⟩ := ix_a h
          refine as73 hx hb hK hW hS cz73 hj dX12_changes_188 (fun H locs hW hS => ?_)
          obtain ⟨M10, eM10⟩ : ∃ y, y = msI M9 7300 0 ((mgI M9 1224 0 0).toNatClampNeg) x3 := ⟨_, rfl⟩
          have h := nm_a eM10 h
          rw [← eM10] at hW
          refine lv_aload_n hx hb dX12_changes_189 rfl (lv_at hl 1 rfl) ?_
          refine lv_dup hx hb dX12_changes_190 rfl ?_
          refine gtX12_234 hx hb hts hown hK hW cz12 dX12_changes_191 ?_
          refine lv_iconst (v := (1 : Int32)) hx hb dX12_changes_194 (by decide) ?_
          refine lv_iadd hx hb dX12_changes_195 ?_
          refine lv_topi (fun v11 ev11 => ?_)
          have h := nm_a ev11 h
          refine ptX12_234 hx hb hts hown hK hW hS cz12 dX12_changes_196 (fun H locs hW hS => ?_)
          obtain ⟨M12, eM12⟩ : ∃ y, y = msI M10 1224 0 0 v11 := ⟨_, rfl⟩
          have h := nm_a eM12 h
          rw [← eM12] at hW
          refine lv_aload_n hx hb dX12_changes_199 rfl (lv_at hl 1 rfl) ?_
          refine lv_iload_n hx hb dX12_changes_200 rfl (lv_at hl 2 rfl) ?_
          refine lv_iload_n hx hb dX12_changes_201 rfl (lv_at hl 3 rfl) ?_
          refine lv_iload_n hx hb dX12_changes_202 rfl (lv_at hl 4 rfl) ?_
          obtain ⟨u13, M14, hcu13, h⟩ := bE_a h
          refine tb_cVV hZk hx hb hml hown hts hK hZ hW hS [.int x1, .int x2, .int x3] (mX12_set (l := l) hZk x1 x2 x3 M12 u13 M14 hcu13) pmX12_set tw1500 (Wd.recv hK hW (t := 12) (by decide) cz12 (C := RX12) (T := TX12) (N := 58) rfl) ⟨Nat.le_of_ble_eq_true rfl, Nat.le_of_ble_eq_true rfl⟩ rfl hl.1 (Nat.le_of_ble_eq_true rfl) ⟨Nat.le_refl _, Nat.le_refl _⟩ rfl dX12_changes_203 (fun H locs hW hS => ?_)
          refine lv_iload hx hb dX12_changes_206 (lv_at hl 0 rfl) ?_
          exact tb_iretE h hx hb hr hS hW hlk dX12_changes_208
        · have h := sh_t c6 h
          refine lv_iconst (v := (1 : Int32)) hx hb dX12_changes_58 (by decide) ?_
          refine lv_istore (lv' := [(5, .int (1 : Int32)), (4, .int v3), (0, .ref (ad 12 0)), (1, .int x1), (2, .int x2), (3, .int x3)]) hx hb dX12_changes_59 hl (by decide) rfl (fun ls hl => ?_)
          have L15 : ∀ (n15 : Nat) (i16 : Int32) (M17 : Mem) (H : Heap) (locs : List Loc) (ls : Array Slot), Wd D cy A cnM ad M17 H → va_S A s.heap H locs → lv_has ls 6 [(0, .ref (ad 12 0)), (1, .int x1), (2, .int x2), (3, .int x3), (4, .int v3), (5, .int i16)] → fX12_changes_l61 x1 x2 v3 x3 n15 i16 M17 = some (r, M') → W p l e (rm 1 23) s m args below meth c H locs 0 0 (MQ below (QI D cy A cnM ad r M') args s 0 0 A) (F0 m 61 ls []) := by
            intro n15
            induction n15 with
            | zero => intro i16 M17 H locs ls hW hS hl h; cases h
            | succ n15 ih15 =>
              intro i16 M17 H locs ls hW hS hl h
              unfold fX12_changes_l61 fX12_changes_b61 at h
              refine lv_iload hx hb dX12_changes_61 (lv_at hl 5 rfl) ?_
              refine lv_bipush (v := (40 : Int32)) hx hb dX12_changes_63 (by decide) ?_
              refine lv_icmp_ge (tgt := 138) hx hb dX12_changes_65 (by decide) (fun c18 => ?_) (fun c18 => ?_)
              · have h := sh_t c18 h
                refine lv_aload_n hx hb dX12_changes_138 rfl (lv_at hl 0 rfl) ?_
                refine lv_dup hx hb dX12_changes_139 rfl ?_
                refine gtX12_234 hx hb hts hown hK hW cz12 dX12_changes_140 ?_
                refine lv_iconst (v := (1 : Int32)) hx hb dX12_changes_143 (by decide) ?_
                refine lv_isub hx hb dX12_changes_144 ?_
                refine lv_topi (fun v19 ev19 => ?_)
                have h := nm_a ev19 h
                refine ptX12_234 hx hb hts hown hK hW hS cz12 dX12_changes_145 (fun H locs hW hS => ?_)
                obtain ⟨M20, eM20⟩ : ∃ y, y = msI M17 1224 0 0 v19 := ⟨_, rfl⟩
                have h := nm_a eM20 h
                rw [← eM20] at hW
                refine lv_aload_n hx hb dX12_changes_148 rfl (lv_at hl 0 rfl) ?_
                refine gtX12_72 hx hb hts hown hK hW cz12 dX12_changes_149 ?_
                refine lv_aload_n hx hb dX12_changes_152 rfl (lv_at hl 0 rfl) ?_
                refine gtX12_234 hx hb hts hown hK hW cz12 dX12_changes_153 ?_
                refine lv_iload_n hx hb dX12_changes_156 rfl (lv_at hl 1 rfl) ?_
                obtain ⟨hj, h⟩ := ix_a h
                refine as70 hx hb hK hW hS cz70 hj dX12_changes_157 (fun H locs hW hS => ?_)
                obtain ⟨M21, eM21⟩ : ∃ y, y = msI M20 7000 0 ((mgI M20 1224 0 0).toNatClampNeg) x1 := ⟨_, rfl⟩
                have h := nm_a eM21 h
                rw [← eM21] at hW
                refine lv_aload_n hx hb dX12_changes_158 rfl (lv_at hl 0 rfl) ?_
                refine gtX12_75 hx hb hts hown hK hW cz12 dX12_changes_159 ?_
                refine lv_aload_n hx hb dX12_changes_162 rfl (lv_at hl 0 rfl) ?_
                refine gtX12_234 hx hb hts hown hK hW cz12 dX12_changes_163 ?_
                refine lv_iload_n hx hb dX12_changes_166 rfl (lv_at hl 2 rfl) ?_
                obtain ⟨hj, h⟩ := ix_a h
                refine as71 hx hb hK hW hS cz71 hj dX12_changes_167 (fun H locs hW hS => ?_)
                obtain ⟨M22, eM22⟩ : ∃ y, y = msI M21 7100 0 ((mgI M21 1224 0 0).toNatClampNeg) x2 := ⟨_, rfl⟩
                have h := nm_a eM22 h
                rw [← eM22] at hW
                refine lv_aload_n hx hb dX12_changes_168 rfl (lv_at hl 0 rfl) ?_
                refine gtX12_78 hx hb hts hown hK hW cz12 dX12_changes_169 ?_
                refine lv_aload_n hx hb dX12_changes_172 rfl (lv_at hl 0 rfl) ?_
                refine gtX12_234 hx hb hts hown hK hW cz12 dX12_changes_173 ?_
                refine lv_iload hx hb dX12_changes_176 (lv_at hl 4 rfl) ?_
                obtain ⟨hj, h⟩ := ix_a h
                refine as72 hx hb hK hW hS cz72 hj dX12_changes_178 (fun H locs hW hS => ?_)
                obtain ⟨M23, eM23⟩ : ∃ y, y = msI M22 7200 0 ((mgI M22 1224 0 0).toNatClampNeg) v3 := ⟨_, rfl⟩
                have h := nm_a eM23 h
                rw [← eM23] at hW
                refine lv_aload_n hx hb dX12_changes_179 rfl (lv_at hl 0 rfl) ?_
                refine gtX12_81 hx hb hts hown hK hW cz12 dX12_changes_180 ?_
                refine lv_aload_n hx hb dX12_changes_183 rfl (lv_at hl 0 rfl) ?_
                refine gtX12_234 hx hb hts hown hK hW cz12 dX12_changes_184 ?_
                refine lv_iload_n hx hb dX12_changes_187 rfl (lv_at hl 3 rfl) ?_
                obtain ⟨hj, h⟩ := ix_a h
                refine as73 hx hb hK hW hS cz73 hj dX12_changes_188 (fun H locs hW hS => ?_)
                obtain ⟨M24, eM24⟩ : ∃ y, y = msI M23 7300 0 ((mgI M23 1224 0 0).toNatClampNeg) x3 := ⟨_, rfl⟩
                have h := nm_a eM24 h
                rw [← eM24] at hW
                refine lv_aload_n hx hb dX12_changes_189 rfl (lv_at hl 0 rfl) ?_
                refine lv_dup hx hb dX12_changes_190 rfl ?_
                refine gtX12_234 hx hb hts hown hK hW cz12 dX12_changes_191 ?_
                refine lv_iconst (v := (1 : Int32)) hx hb dX12_changes_194 (by decide) ?_
                refine lv_iadd hx hb dX12_changes_195 ?_
                refine lv_topi (fun v25 ev25 => ?_)
                have h := nm_a ev25 h
                refine ptX12_234 hx hb hts hown hK hW hS cz12 dX12_changes_196 (fun H locs hW hS => ?_)
                obtain ⟨M26, eM26⟩ : ∃ y, y = msI M24 1224 0 0 v25 := ⟨_, rfl⟩
                have h := nm_a eM26 h
                rw [← eM26] at hW
                refine lv_aload_n hx hb dX12_changes_199 rfl (lv_at hl 0 rfl) ?_
                refine lv_iload_n hx hb dX12_changes_200 rfl (lv_at hl 1 rfl) ?_
                refine lv_iload_n hx hb dX12_changes_201 rfl (lv_at hl 2 rfl) ?_
                refine lv_iload_n hx hb dX12_changes_202 rfl (lv_at hl 3 rfl) ?_
                obtain ⟨u27, M28, hcu27, h⟩ := bE_a h
                refine tb_cVV hZk hx hb hml hown hts hK hZ hW hS [.int x1, .int x2, .int x3] (mX12_set (l := l) hZk x1 x2 x3 M26 u27 M28 hcu27) pmX12_set tw1500 (Wd.recv hK hW (t := 12) (by decide) cz12 (C := RX12) (T := TX12) (N := 58) rfl) ⟨Nat.le_of_ble_eq_true rfl, Nat.le_of_ble_eq_true rfl⟩ rfl hl.1 (Nat.le_of_ble_eq_true rfl) ⟨Nat.le_refl _, Nat.le_refl _⟩ rfl dX12_changes_203 (fun H locs hW hS => ?_)
                refine lv_iload hx hb dX12_changes_206 (lv_at hl 4 rfl) ?_
                exact tb_iretE h hx hb hr hS hW hlk dX12_changes_208
              · have h := sh_f c18 h
                refine lv_aload_n hx hb dX12_changes_68 rfl (lv_at hl 0 rfl) ?_
                refine gtX12_72 hx hb hts hown hK hW cz12 dX12_changes_69 ?_
                refine lv_iload hx hb dX12_changes_72 (lv_at hl 5 rfl) ?_
                refine lv_iconst (v := (1 : Int32)) hx hb dX12_changes_74 (by decide) ?_
                refine lv_isub hx hb dX12_changes_75 ?_
                refine lv_aload_n hx hb dX12_changes_76 rfl (lv_at hl 0 rfl) ?_
                refine gtX12_72 hx hb hts hown hK hW cz12 dX12_changes_77 ?_
                refine lv_iload hx hb dX12_changes_80 (lv_at hl 5 rfl) ?_
                obtain ⟨hj, h⟩ := ix_a h
                refine al70 hx hb hK hW cz70 hj dX12_changes_82 ?_
                refine lv_topi (fun v29 ev29 => ?_)
                have h := nm_a ev29 h
                obtain ⟨hj, h⟩ := ix_a h
                refine as70 hx hb hK hW hS cz70 hj dX12_changes_83 (fun H locs hW hS => ?_)
                obtain ⟨M30, eM30⟩ : ∃ y, y = msI M17 7000 0 ((i16 - (1 : Int32)).toNatClampNeg) v29 := ⟨_, rfl⟩
                have h := nm_a eM30 h
                rw [← eM30] at hW
                refine lv_aload_n hx hb dX12_changes_84 rfl (lv_at hl 0 rfl) ?_
                refine gtX12_75 hx hb hts hown hK hW cz12 dX12_changes_85 ?_
                refine lv_iload hx hb dX12_changes_88 (lv_at hl 5 rfl) ?_
                refine lv_iconst (v := (1 : Int32)) hx hb dX12_changes_90 (by decide) ?_
                refine lv_isub hx hb dX12_changes_91 ?_
                refine lv_aload_n hx hb dX12_changes_92 rfl (lv_at hl 0 rfl) ?_
                refine gtX12_75 hx hb hts hown hK hW cz12 dX12_changes_93 ?_
                refine lv_iload hx hb dX12_changes_96 (lv_at hl 5 rfl) ?_
                obtain ⟨hj, h⟩ := ix_a h
                refine al71 hx hb hK hW cz71 hj dX12_changes_98 ?_
                refine lv_topi (fun v31 ev31 => ?_)
                have h := nm_a ev31 h
                obtain ⟨hj, h⟩ := ix_a h
                refine as71 hx hb hK hW hS cz71 hj dX12_changes_99 (fun H locs hW hS => ?_)
                obtain ⟨M32, eM32⟩ : ∃ y, y = msI M30 7100 0 ((i16 - (1 : Int32)).toNatClampNeg) v31 := ⟨_, rfl⟩
                have h := nm_a eM32 h
                rw [← eM32] at hW
                refine lv_aload_n hx hb dX12_changes_100 rfl (lv_at hl 0 rfl) ?_
                refine gtX12_78 hx hb hts hown hK hW cz12 dX12_changes_101 ?_
                refine lv_iload hx hb dX12_changes_104 (lv_at hl 5 rfl) ?_
                refine lv_iconst (v := (1 : Int32)) hx hb dX12_changes_106 (by decide) ?_
                refine lv_isub hx hb dX12_changes_107 ?_
                refine lv_aload_n hx hb dX12_changes_108 rfl (lv_at hl 0 rfl) ?_
                refine gtX12_78 hx hb hts hown hK hW cz12 dX12_changes_109 ?_
                refine lv_iload hx hb dX12_changes_112 (lv_at hl 5 rfl) ?_
                obtain ⟨hj, h⟩ := ix_a h
                refine al72 hx hb hK hW cz72 hj dX12_changes_114 ?_
                refine lv_topi (fun v33 ev33 => ?_)
                have h := nm_a ev33 h
                obtain ⟨hj, h⟩ := ix_a h
                refine as72 hx hb hK hW hS cz72 hj dX12_changes_115 (fun H locs hW hS => ?_)
                obtain ⟨M34, eM34⟩ : ∃ y, y = msI M32 7200 0 ((i16 - (1 : Int32)).toNatClampNeg) v33 := ⟨_, rfl⟩
                have h := nm_a eM34 h
                rw [← eM34] at hW
                refine lv_aload_n hx hb dX12_changes_116 rfl (lv_at hl 0 rfl) ?_
                refine gtX12_81 hx hb hts hown hK hW cz12 dX12_changes_117 ?_
                refine lv_iload hx hb dX12_changes_120 (lv_at hl 5 rfl) ?_
                refine lv_iconst (v := (1 : Int32)) hx hb dX12_changes_122 (by decide) ?_
                refine lv_isub hx hb dX12_changes_123 ?_
                refine lv_aload_n hx hb dX12_changes_124 rfl (lv_at hl 0 rfl) ?_
                refine gtX12_81 hx hb hts hown hK hW cz12 dX12_changes_125 ?_
                refine lv_iload hx hb dX12_changes_128 (lv_at hl 5 rfl) ?_
                obtain ⟨hj, h⟩ := ix_a h
                refine al73 hx hb hK hW cz73 hj dX12_changes_130 ?_
                refine lv_topi (fun v35 ev35 => ?_)
                have h := nm_a ev35 h
                obtain ⟨hj, h⟩ := ix_a h
                refine as73 hx hb hK hW hS cz73 hj dX12_changes_131 (fun H locs hW hS => ?_)
                obtain ⟨M36, eM36⟩ : ∃ y, y = msI M34 7300 0 ((i16 - (1 : Int32)).toNatClampNeg) v35 := ⟨_, rfl⟩
                have h := nm_a eM36 h
                rw [← eM36] at hW
                obtain ⟨v37, ev37⟩ : ∃ y : Int32, y = i16 + (1 : Int32) := ⟨_, rfl⟩
                have h := nm_a ev37 h
                refine lv_iinc (v := v37) (lv' := [(5, .int v37), (0, .ref (ad 12 0)), (1, .int x1), (2, .int x2), (3, .int x3), (4, .int v3)]) hx hb dX12_changes_132 hl (k := 5) rfl (by rw [ev37]; rfl) (by decide) rfl (fun ls hl => ?_)
                refine lv_goto (tgt := 61) hx hb dX12_changes_135 (by decide) ?_
                exact ih15 v37 M36 _ _ _ hW hS (lv_sub hl [1, 2, 3, 4, 5, 0] rfl) h
          exact L15 FU (1 : Int32) M5 _ _ _ hW hS (lv_sub hl [2, 3, 4, 5, 1, 0] rfl) h
      · have h := sh_t c4 h
        refine lv_iload hx hb dX12_changes_41 (lv_at hl 0 rfl) ?_
        exact tb_iretE h hx hb hr hS hW hlk dX12_changes_43
    · have h := sh_t c2 h
      refine lv_aload_n hx hb dX12_changes_18 rfl (lv_at hl 0 rfl) ?_
      refine gtX12_47 hx hb hts hown hK hW cz12 dX12_changes_19 ?_
      refine lv_iload_n hx hb dX12_changes_22 rfl (lv_at hl 2 rfl) ?_
      obtain ⟨hj, h⟩ := ix_a h
      refine al62 hx hb hK hW cz62 hj dX12_changes_23 ?_
      refine lv_goto (tgt := 33) hx hb dX12_changes_24 (by decide) ?_
      refine lv_topi (fun v38 ev38 => ?_)
      have h := nm_a ev38 h
      refine lv_istore (lv' := [(4, .int v38), (0, .ref (ad 12 0)), (1, .int x1), (2, .int x2), (3, .int x3)]) hx hb dX12_changes_33 hl (by decide) rfl (fun ls hl => ?_)
      refine lv_iload hx hb dX12_changes_35 (lv_at hl 0 rfl) ?_
      refine lv_iload_n hx hb dX12_changes_37 rfl (lv_at hl 4 rfl) ?_
      refine lv_icmp_ne (tgt := 44) hx hb dX12_changes_38 (by decide) (fun c39 => ?_) (fun c39 => ?_)
      · have h := sh_f c39 h
        refine lv_aload_n hx hb dX12_changes_44 rfl (lv_at hl 1 rfl) ?_
        refine lv_iconst (v := (0 : Int32)) hx hb dX12_changes_45 (by decide) ?_
        refine ptX12_231 hx hb hts hown hK hW hS cz12 dX12_changes_46 (fun H locs hW hS => ?_)
        obtain ⟨M40, eM40⟩ : ∃ y, y = msI M0 1225 0 0 (0 : Int32) := ⟨_, rfl⟩
        have h := nm_a eM40 h
        rw [← eM40] at hW
        refine lv_aload_n hx hb dX12_changes_49 rfl (lv_at hl 1 rfl) ?_
        refine gtX12_234 hx hb hts hown hK hW cz12 dX12_changes_50 ?_
        refine lv_bipush (v := (40 : Int32)) hx hb dX12_changes_53 (by decide) ?_
        refine lv_icmp_ne (tgt := 148) hx hb dX12_changes_55 (by decide) (fun c41 => ?_) (fun c41 => ?_)
        · have h := sh_f c41 h
          refine lv_aload_n hx hb dX12_changes_148 rfl (lv_at hl 1 rfl) ?_
          refine gtX12_72 hx hb hts hown hK hW cz12 dX12_changes_149 ?_
          refine lv_aload_n hx hb dX12_changes_152 rfl (lv_at hl 1 rfl) ?_
          refine gtX12_234 hx hb hts hown hK hW cz12 dX12_changes_153 ?_
          refine lv_iload_n hx hb dX12_changes_156 rfl (lv_at hl 2 rfl) ?_
          obtain ⟨hj, h⟩ := ix_a h
          refine as70 hx hb hK hW hS cz70 hj dX12_changes_157 (fun H locs hW hS => ?_)
          obtain ⟨M42, eM42⟩ : ∃ y, y = msI M40 7000 0 ((mgI M40 1224 0 0).toNatClampNeg) x1 := ⟨_, rfl⟩
          have h := nm_a eM42 h
          rw [← eM42] at hW
          refine lv_aload_n hx hb dX12_changes_158 rfl (lv_at hl 1 rfl) ?_
          refine gtX12_75 hx hb hts hown hK hW cz12 dX12_changes_159 ?_
          refine lv_aload_n hx hb dX12_changes_162 rfl (lv_at hl 1 rfl) ?_
          refine gtX12_234 hx hb hts hown hK hW cz12 dX12_changes_163 ?_
          refine lv_iload_n hx hb dX12_changes_166 rfl (lv_at hl 3 rfl) ?_
          obtain ⟨hj, h⟩ := ix_a h
          refine as71 hx hb hK hW hS cz71 hj dX12_changes_167 (fun H locs hW hS => ?_)
          obtain ⟨M43, eM43⟩ : ∃ y, y = msI M42 7100 0 ((mgI M42 1224 0 0).toNatClampNeg) x2 := ⟨_, rfl⟩
          have h := nm_a eM43 h
          rw [← eM43] at hW
          refine lv_aload_n hx hb dX12_changes_168 rfl (lv_at hl 1 rfl) ?_
          refine gtX12_78 hx hb hts hown hK hW cz12 dX12_changes_169 ?_
          refine lv_aload_n hx hb dX12_changes_172 rfl (lv_at hl 1 rfl) ?_
          refine gtX12_234 hx hb hts hown hK hW cz12 dX12_changes_173 ?_
          refine lv_iload hx hb dX12_changes_176 (lv_at hl 0 rfl) ?_
          obtain ⟨hj, h⟩ := ix_a h
          refine as72 hx hb hK hW hS cz72 hj dX12_changes_178 (fun H locs hW hS => ?_)
          obtain ⟨M44, eM44⟩ : ∃ y, y = msI M43 7200 0 ((mgI M43 1224 0 0).toNatClampNeg) v38 := ⟨_, rfl⟩
          have h := nm_a eM44 h
          rw [← eM44] at hW
          refine lv_aload_n hx hb dX12_changes_179 rfl (lv_at hl 1 rfl) ?_
          refine gtX12_81 hx hb hts hown hK hW cz12 dX12_changes_180 ?_
          refine lv_aload_n hx hb dX12_changes_183 rfl (lv_at hl 1 rfl) ?_
          refine gtX12_234 hx hb hts hown hK hW cz12 dX12_changes_184 ?_
          refine lv_iload_n hx hb dX12_changes_187 rfl (lv_at hl 4 rfl) ?_
          obtain ⟨hj, h⟩ := ix_a h
          refine as73 hx hb hK hW hS cz73 hj dX12_changes_188 (fun H locs hW hS => ?_)
          obtain ⟨M45, eM45⟩ : ∃ y, y = msI M44 7300 0 ((mgI M44 1224 0 0).toNatClampNeg) x3 := ⟨_, rfl⟩
          have h := nm_a eM45 h
          rw [← eM45] at hW
          refine lv_aload_n hx hb dX12_changes_189 rfl (lv_at hl 1 rfl) ?_
          refine lv_dup hx hb dX12_changes_190 rfl ?_
          refine gtX12_234 hx hb hts hown hK hW cz12 dX12_changes_191 ?_
          refine lv_iconst (v := (1 : Int32)) hx hb dX12_changes_194 (by decide) ?_
          refine lv_iadd hx hb dX12_changes_195 ?_
          refine lv_topi (fun v46 ev46 => ?_)
          have h := nm_a ev46 h
          refine ptX12_234 hx hb hts hown hK hW hS cz12 dX12_changes_196 (fun H locs hW hS => ?_)
          obtain ⟨M47, eM47⟩ : ∃ y, y = msI M45 1224 0 0 v46 := ⟨_, rfl⟩
          have h := nm_a eM47 h
          rw [← eM47] at hW
          refine lv_aload_n hx hb dX12_changes_199 rfl (lv_at hl 1 rfl) ?_
          refine lv_iload_n hx hb dX12_changes_200 rfl (lv_at hl 2 rfl) ?_
          refine lv_iload_n hx hb dX12_changes_201 rfl (lv_at hl 3 rfl) ?_
          refine lv_iload_n hx hb dX12_changes_202 rfl (lv_at hl 4 rfl) ?_
          obtain ⟨u48, M49, hcu48, h⟩ := bE_a h
          refine tb_cVV hZk hx hb hml hown hts hK hZ hW hS [.int x1, .int x2, .int x3] (mX12_set (l := l) hZk x1 x2 x3 M47 u48 M49 hcu48) pmX12_set tw1500 (Wd.recv hK hW (t := 12) (by decide) cz12 (C := RX12) (T := TX12) (N := 58) rfl) ⟨Nat.le_of_ble_eq_true rfl, Nat.le_of_ble_eq_true rfl⟩ rfl hl.1 (Nat.le_of_ble_eq_true rfl) ⟨Nat.le_refl _, Nat.le_refl _⟩ rfl dX12_changes_203 (fun H locs hW hS => ?_)
          refine lv_iload hx hb dX12_changes_206 (lv_at hl 0 rfl) ?_
          exact tb_iretE h hx hb hr hS hW hlk dX12_changes_208
        · have h := sh_t c41 h
          refine lv_iconst (v := (1 : Int32)) hx hb dX12_changes_58 (by decide) ?_
          refine lv_istore (lv' := [(5, .int (1 : Int32)), (4, .int v38), (0, .ref (ad 12 0)), (1, .int x1), (2, .int x2), (3, .int x3)]) hx hb dX12_changes_59 hl (by decide) rfl (fun ls hl => ?_)
          have L50 : ∀ (n50 : Nat) (i51 : Int32) (M52 : Mem) (H : Heap) (locs : List Loc) (ls : Array Slot), Wd D cy A cnM ad M52 H → va_S A s.heap H locs → lv_has ls 6 [(0, .ref (ad 12 0)), (1, .int x1), (2, .int x2), (3, .int x3), (4, .int v38), (5, .int i51)] → fX12_changes_l61_50 x1 x2 v38 x3 n50 i51 M52 = some (r, M') → W p l e (rm 1 23) s m args below meth c H locs 0 0 (MQ below (QI D cy A cnM ad r M') args s 0 0 A) (F0 m 61 ls []) := by
            intro n50
            induction n50 with
            | zero => intro i51 M52 H locs ls hW hS hl h; cases h
            | succ n50 ih50 =>
              intro i51 M52 H locs ls hW hS hl h
              unfold fX12_changes_l61_50 fX12_changes_b61_50 at h
              refine lv_iload hx hb dX12_changes_61 (lv_at hl 5 rfl) ?_
              refine lv_bipush (v := (40 : Int32)) hx hb dX12_changes_63 (by decide) ?_
              refine lv_icmp_ge (tgt := 138) hx hb dX12_changes_65 (by decide) (fun c53 => ?_) (fun c53 => ?_)
              · have h := sh_t c53 h
                refine lv_aload_n hx hb dX12_changes_138 rfl (lv_at hl 0 rfl) ?_
                refine lv_dup hx hb dX12_changes_139 rfl ?_
                refine gtX12_234 hx hb hts hown hK hW cz12 dX12_changes_140 ?_
                refine lv_iconst (v := (1 : Int32)) hx hb dX12_changes_143 (by decide) ?_
                refine lv_isub hx hb dX12_changes_144 ?_
                refine lv_topi (fun v54 ev54 => ?_)
                have h := nm_a ev54 h
                refine ptX12_234 hx hb hts hown hK hW hS cz12 dX12_changes_145 (fun H locs hW hS => ?_)
                obtain ⟨M55, eM55⟩ : ∃ y, y = msI M52 1224 0 0 v54 := ⟨_, rfl⟩
                have h := nm_a eM55 h
                rw [← eM55] at hW
                refine lv_aload_n hx hb dX12_changes_148 rfl (lv_at hl 0 rfl) ?_
                refine gtX12_72 hx hb hts hown hK hW cz12 dX12_changes_149 ?_
                refine lv_aload_n hx hb dX12_changes_152 rfl (lv_at hl 0 rfl) ?_
                refine gtX12_234 hx hb hts hown hK hW cz12 dX12_changes_153 ?_
                refine lv_iload_n hx hb dX12_changes_156 rfl (lv_at hl 1 rfl) ?_
                obtain ⟨hj, h⟩ := ix_a h
                refine as70 hx hb hK hW hS cz70 hj dX12_changes_157 (fun H locs hW hS => ?_)
                obtain ⟨M56, eM56⟩ : ∃ y, y = msI M55 7000 0 ((mgI M55 1224 0 0).toNatClampNeg) x1 := ⟨_, rfl⟩
                have h := nm_a eM56 h
                rw [← eM56] at hW
                refine lv_aload_n hx hb dX12_changes_158 rfl (lv_at hl 0 rfl) ?_
                refine gtX12_75 hx hb hts hown hK hW cz12 dX12_changes_159 ?_
                refine lv_aload_n hx hb dX12_changes_162 rfl (lv_at hl 0 rfl) ?_
                refine gtX12_234 hx hb hts hown hK hW cz12 dX12_changes_163 ?_
                refine lv_iload_n hx hb dX12_changes_166 rfl (lv_at hl 2 rfl) ?_
                obtain ⟨hj, h⟩ := ix_a h
                refine as71 hx hb hK hW hS cz71 hj dX12_changes_167 (fun H locs hW hS => ?_)
                obtain ⟨M57, eM57⟩ : ∃ y, y = msI M56 7100 0 ((mgI M56 1224 0 0).toNatClampNeg) x2 := ⟨_, rfl⟩
                have h := nm_a eM57 h
                rw [← eM57] at hW
                refine lv_aload_n hx hb dX12_changes_168 rfl (lv_at hl 0 rfl) ?_
                refine gtX12_78 hx hb hts hown hK hW cz12 dX12_changes_169 ?_
                refine lv_aload_n hx hb dX12_changes_172 rfl (lv_at hl 0 rfl) ?_
                refine gtX12_234 hx hb hts hown hK hW cz12 dX12_changes_173 ?_
                refine lv_iload hx hb dX12_changes_176 (lv_at hl 4 rfl) ?_
                obtain ⟨hj, h⟩ := ix_a h
                refine as72 hx hb hK hW hS cz72 hj dX12_changes_178 (fun H locs hW hS => ?_)
                obtain ⟨M58, eM58⟩ : ∃ y, y = msI M57 7200 0 ((mgI M57 1224 0 0).toNatClampNeg) v38 := ⟨_, rfl⟩
                have h := nm_a eM58 h
                rw [← eM58] at hW
                refine lv_aload_n hx hb dX12_changes_179 rfl (lv_at hl 0 rfl) ?_
                refine gtX12_81 hx hb hts hown hK hW cz12 dX12_changes_180 ?_
                refine lv_aload_n hx hb dX12_changes_183 rfl (lv_at hl 0 rfl) ?_
                refine gtX12_234 hx hb hts hown hK hW cz12 dX12_changes_184 ?_
                refine lv_iload_n hx hb dX12_changes_187 rfl (lv_at hl 3 rfl) ?_
                obtain ⟨hj, h⟩ := ix_a h
                refine as73 hx hb hK hW hS cz73 hj dX12_changes_188 (fun H locs hW hS => ?_)
                obtain ⟨M59, eM59⟩ : ∃ y, y = msI M58 7300 0 ((mgI M58 1224 0 0).toNatClampNeg) x3 := ⟨_, rfl⟩
                have h := nm_a eM59 h
                rw [← eM59] at hW
                refine lv_aload_n hx hb dX12_changes_189 rfl (lv_at hl 0 rfl) ?_
                refine lv_dup hx hb dX12_changes_190 rfl ?_
                refine gtX12_234 hx hb hts hown hK hW cz12 dX12_changes_191 ?_
                refine lv_iconst (v := (1 : Int32)) hx hb dX12_changes_194 (by decide) ?_
                refine lv_iadd hx hb dX12_changes_195 ?_
                refine lv_topi (fun v60 ev60 => ?_)
                have h := nm_a ev60 h
                refine ptX12_234 hx hb hts hown hK hW hS cz12 dX12_changes_196 (fun H locs hW hS => ?_)
                obtain ⟨M61, eM61⟩ : ∃ y, y = msI M59 1224 0 0 v60 := ⟨_, rfl⟩
                have h := nm_a eM61 h
                rw [← eM61] at hW
                refine lv_aload_n hx hb dX12_changes_199 rfl (lv_at hl 0 rfl) ?_
                refine lv_iload_n hx hb dX12_changes_200 rfl (lv_at hl 1 rfl) ?_
                refine lv_iload_n hx hb dX12_changes_201 rfl (lv_at hl 2 rfl) ?_
                refine lv_iload_n hx hb dX12_changes_202 rfl (lv_at hl 3 rfl) ?_
                obtain ⟨u62, M63, hcu62, h⟩ := bE_a h
                refine tb_cVV hZk hx hb hml hown hts hK hZ hW hS [.int x1, .int x2, .int x3] (mX12_set (l := l) hZk x1 x2 x3 M61 u62 M63 hcu62) pmX12_set tw1500 (Wd.recv hK hW (t := 12) (by decide) cz12 (C := RX12) (T := TX12) (N := 58) rfl) ⟨Nat.le_of_ble_eq_true rfl, Nat.le_of_ble_eq_true rfl⟩ rfl hl.1 (Nat.le_of_ble_eq_true rfl) ⟨Nat.le_refl _, Nat.le_refl _⟩ rfl dX12_changes_203 (fun H locs hW hS => ?_)
                refine lv_iload hx hb dX12_changes_206 (lv_at hl 4 rfl) ?_
                exact tb_iretE h hx hb hr hS hW hlk dX12_changes_208
              · have h := sh_f c53 h
                refine lv_aload_n hx hb dX12_changes_68 rfl (lv_at hl 0 rfl) ?_
                refine gtX12_72 hx hb hts hown hK hW cz12 dX12_changes_69 ?_
                refine lv_iload hx hb dX12_changes_72 (lv_at hl 5 rfl) ?_
                refine lv_iconst (v := (1 : Int32)) hx hb dX12_changes_74 (by decide) ?_
                refine lv_isub hx hb dX12_changes_75 ?_
                refine lv_aload_n hx hb dX12_changes_76 rfl (lv_at hl 0 rfl) ?_
                refine gtX12_72 hx hb hts hown hK hW cz12 dX12_changes_77 ?_
                refine lv_iload hx hb dX12_changes_80 (lv_at hl 5 rfl) ?_
                obtain ⟨hj, h⟩ := ix_a h
                refine al70 hx hb hK hW cz70 hj dX12_changes_82 ?_
                refine lv_topi (fun v64 ev64 => ?_)
                have h := nm_a ev64 h
                obtain ⟨hj, h⟩ := ix_a h
                refine as70 hx hb hK hW hS cz70 hj dX12_changes_83 (fun H locs hW hS => ?_)
                obtain ⟨M65, eM65⟩ : ∃ y, y = msI M52 7000 0 ((i51 - (1 : Int32)).toNatClampNeg) v64 := ⟨_, rfl⟩
                have h := nm_a eM65 h
                rw [← eM65] at hW
                refine lv_aload_n hx hb dX12_changes_84 rfl (lv_at hl 0 rfl) ?_
                refine gtX12_75 hx hb hts hown hK hW cz12 dX12_changes_85 ?_
                refine lv_iload hx hb dX12_changes_88 (lv_at hl 5 rfl) ?_
                refine lv_iconst (v := (1 : Int32)) hx hb dX12_changes_90 (by decide) ?_
                refine lv_isub hx hb dX12_changes_91 ?_
                refine lv_aload_n hx hb dX12_changes_92 rfl (lv_at hl 0 rfl) ?_
                refine gtX12_75 hx hb hts hown hK hW cz12 dX12_changes_93 ?_
                refine lv_iload hx hb dX12_changes_96 (lv_at hl 5 rfl) ?_
                obtain ⟨hj, h⟩ := ix_a h
                refine al71 hx hb hK hW cz71 hj dX12_changes_98 ?_
                refine lv_topi (fun v66 ev66 => ?_)
                have h := nm_a ev66 h
                obtain ⟨hj, h⟩ := ix_a h
                refine as71 hx hb hK hW hS cz71 hj dX12_changes_99 (fun H locs hW hS => ?_)
                obtain ⟨M67, eM67⟩ : ∃ y, y = msI M65 7100 0 ((i51 - (1 : Int32)).toNatClampNeg) v66 := ⟨_, rfl⟩
                have h := nm_a eM67 h
                rw [← eM67] at hW
                refine lv_aload_n hx hb dX12_changes_100 rfl (lv_at hl 0 rfl) ?_
                refine gtX12_78 hx hb hts hown hK hW cz12 dX12_changes_101 ?_
                refine lv_iload hx hb dX12_changes_104 (lv_at hl 5 rfl) ?_
                refine lv_iconst (v := (1 : Int32)) hx hb dX12_changes_106 (by decide) ?_
                refine lv_isub hx hb dX12_changes_107 ?_
                refine lv_aload_n hx hb dX12_changes_108 rfl (lv_at hl 0 rfl) ?_
                refine gtX12_78 hx hb hts hown hK hW cz12 dX12_changes_109 ?_
                refine lv_iload hx hb dX12_changes_112 (lv_at hl 5 rfl) ?_
                obtain ⟨hj, h⟩ := ix_a h
                refine al72 hx hb hK hW cz72 hj dX12_changes_114 ?_
                refine lv_topi (fun v68 ev68 => ?_)
                have h := nm_a ev68 h
                obtain ⟨hj, h⟩ := ix_a h
                refine as72 hx hb hK hW hS cz72 hj dX12_changes_115 (fun H locs hW hS => ?_)
                obtain ⟨M69, eM69⟩ : ∃ y, y = msI M67 7200 0 ((i51 - (1 : Int32)).toNatClampNeg) v68 := ⟨_, rfl⟩
                have h := nm_a eM69 h
                rw [← eM69] at hW
                refine lv_aload_n hx hb dX12_changes_116 rfl (lv_at hl 0 rfl) ?_
                refine gtX12_81 hx hb hts hown hK hW cz12 dX12_changes_117 ?_
                refine lv_iload hx hb dX12_changes_120 (lv_at hl 5 rfl) ?_
                refine lv_iconst (v := (1 : Int32)) hx hb dX12_changes_122 (by decide) ?_
                refine lv_isub hx hb dX12_changes_123 ?_
                refine lv_aload_n hx hb dX12_changes_124 rfl (lv_at hl 0 rfl) ?_
                refine gtX12_81 hx hb hts hown hK hW cz12 dX12_changes_125 ?_
                refine lv_iload hx hb dX12_changes_128 (lv_at hl 5 rfl) ?_
                obtain ⟨hj, h⟩ := ix_a h
                refine al73 hx hb hK hW cz73 hj dX12_changes_130 ?_
                refine lv_topi (fun v70 ev70 => ?_)
                have h := nm_a ev70 h
                obtain ⟨hj, h⟩ := ix_a h
                refine as73 hx hb hK hW hS cz73 hj dX12_changes_131 (fun H locs hW hS => ?_)
                obtain ⟨M71, eM71⟩ : ∃ y, y = msI M69 7300 0 ((i51 - (1 : Int32)).toNatClampNeg) v70 := ⟨_, rfl⟩
                have h := nm_a eM71 h
                rw [← eM71] at hW
                obtain ⟨v72, ev72⟩ : ∃ y : Int32, y = i51 + (1 : Int32) := ⟨_, rfl⟩
                have h := nm_a ev72 h
                refine lv_iinc (v := v72) (lv' := [(5, .int v72), (0, .ref (ad 12 0)), (1, .int x1), (2, .int x2), (3, .int x3), (4, .int v38)]) hx hb dX12_changes_132 hl (k := 5) rfl (by rw [ev72]; rfl) (by decide) rfl (fun ls hl => ?_)
                refine lv_goto (tgt := 61) hx hb dX12_changes_135 (by decide) ?_
                exact ih50 v72 M71 _ _ _ hW hS (lv_sub hl [1, 2, 3, 4, 5, 0] rfl) h
          exact L50 FU (1 : Int32) M40 _ _ _ hW hS (lv_sub hl [2, 3, 4, 5, 1, 0] rfl) h
      · have h := sh_t c39 h
        refine lv_iload hx hb dX12_changes_41 (lv_at hl 0 rfl) ?_
        exact tb_iretE h hx hb hr hS hW hlk dX12_changes_43
  · have h := sh_t c1 h
    refine lv_aload_n hx hb dX12_changes_4 rfl (lv_at hl 0 rfl) ?_
    refine gtX12_44 hx hb hts hown hK hW cz12 dX12_changes_5 ?_
    refine lv_iload_n hx hb dX12_changes_8 rfl (lv_at hl 2 rfl) ?_
    obtain ⟨hj, h⟩ := ix_a h
    refine al61 hx hb hK hW cz61 hj dX12_changes_9 ?_
    refine lv_goto (tgt := 33) hx hb dX12_changes_10 (by decide) ?_
    refine lv_topi (fun v73 ev73 => ?_)
    have h := nm_a ev73 h
    refine lv_istore (lv' := [(4, .int v73), (0, .ref (ad 12 0)), (1, .int x1), (2, .int x2), (3, .int x3)]) hx hb dX12_changes_33 hl (by decide) rfl (fun ls hl => ?_)
    refine lv_iload hx hb dX12_changes_35 (lv_at hl 0 rfl) ?_
    refine lv_iload_n hx hb dX12_changes_37 rfl (lv_at hl 4 rfl) ?_
    refine lv_icmp_ne (tgt := 44) hx hb dX12_changes_38 (by decide) (fun c74 => ?_) (fun c74 => ?_)
    · have h := sh_f c74 h
      refine lv_aload_n hx hb dX12_changes_44 rfl (lv_at hl 1 rfl) ?_
      refine lv_iconst (v := (0 : Int32)) hx hb dX12_changes_45 (by decide) ?_
      refine ptX12_231 hx hb hts hown hK hW hS cz12 dX12_changes_46 (fun H locs hW hS => ?_)
      obtain ⟨M75, eM75⟩ : ∃ y, y = msI M0 1225 0 0 (0 : Int32) := ⟨_, rfl⟩
      have h := nm_a eM75 h
      rw [← eM75] at hW
      refine lv_aload_n hx hb dX12_changes_49 rfl (lv_at hl 1 rfl) ?_
      refine gtX12_234 hx hb hts hown hK hW cz12 dX12_changes_50 ?_
      refine lv_bipush (v := (40 : Int32)) hx hb dX12_changes_53 (by decide) ?_
      refine lv_icmp_ne (tgt := 148) hx hb dX12_changes_55 (by decide) (fun c76 => ?_) (fun c76 => ?_)
      · have h := sh_f c76 h
        refine lv_aload_n hx hb dX12_changes_148 rfl (lv_at hl 1 rfl) ?_
        refine gtX12_72 hx hb hts hown hK hW cz12 dX12_changes_149 ?_
        refine lv_aload_n hx hb dX12_changes_152 rfl (lv_at hl 1 rfl) ?_
        refine gtX12_234 hx hb hts hown hK hW cz12 dX12_changes_153 ?_
        refine lv_iload_n hx hb dX12_changes_156 rfl (lv_at hl 2 rfl) ?_
        obtain ⟨hj, h⟩ := ix_a h
        refine as70 hx hb hK hW hS cz70 hj dX12_changes_157 (fun H locs hW hS => ?_)
        obtain ⟨M77, eM77⟩ : ∃ y, y = msI M75 7000 0 ((mgI M75 1224 0 0).toNatClampNeg) x1 := ⟨_, rfl⟩
        have h := nm_a eM77 h
        rw [← eM77] at hW
        refine lv_aload_n hx hb dX12_changes_158 rfl (lv_at hl 1 rfl) ?_
        refine gtX12_75 hx hb hts hown hK hW cz12 dX12_changes_159 ?_
        refine lv_aload_n hx hb dX12_changes_162 rfl (lv_at hl 1 rfl) ?_
        refine gtX12_234 hx hb hts hown hK hW cz12 dX12_changes_163 ?_
        refine lv_iload_n hx hb dX12_changes_166 rfl (lv_at hl 3 rfl) ?_
        obtain ⟨hj, h⟩ := ix_a h
        refine as71 hx hb hK hW hS cz71 hj dX12_changes_167 (fun H locs hW hS => ?_)
        obtain ⟨M78, eM78⟩ : ∃ y, y = msI M77 7100 0 ((mgI M77 1224 0 0).toNatClampNeg) x2 := ⟨_, rfl⟩
        have h := nm_a eM78 h
        rw [← eM78] at hW
        refine lv_aload_n hx hb dX12_changes_168 rfl (lv_at hl 1 rfl) ?_
        refine gtX12_78 hx hb hts hown hK hW cz12 dX12_changes_169 ?_
        refine lv_aload_n hx hb dX12_changes_172 rfl (lv_at hl 1 rfl) ?_
        refine gtX12_234 hx hb hts hown hK hW cz12 dX12_changes_173 ?_
        refine lv_iload hx hb dX12_changes_176 (lv_at hl 0 rfl) ?_
        obtain ⟨hj, h⟩ := ix_a h
        refine as72 hx hb hK hW hS cz72 hj dX12_changes_178 (fun H locs hW hS => ?_)
        obtain ⟨M79, eM79⟩ : ∃ y, y = msI M78 7200 0 ((mgI M78 1224 0 0).toNatClampNeg) v73 := ⟨_, rfl⟩
        have h := nm_a eM79 h
        rw [← eM79] at hW
        refine lv_aload_n hx hb dX12_changes_179 rfl (lv_at hl 1 rfl) ?_
        refine gtX12_81 hx hb hts hown hK hW cz12 dX12_changes_180 ?_
        refine lv_aload_n hx hb dX12_changes_183 rfl (lv_at hl 1 rfl) ?_
        refine gtX12_234 hx hb hts hown hK hW cz12 dX12_changes_184 ?_
        refine lv_iload_n hx hb dX12_changes_187 rfl (lv_at hl 4 rfl) ?_
        obtain ⟨hj, h⟩ := ix_a h
        refine as73 hx hb hK hW hS cz73 hj dX12_changes_188 (fun H locs hW hS => ?_)
        obtain ⟨M80, eM80⟩ : ∃ y, y = msI M79 7300 0 ((mgI M79 1224 0 0).toNatClampNeg) x3 := ⟨_, rfl⟩
        have h := nm_a eM80 h
        rw [← eM80] at hW
        refine lv_aload_n hx hb dX12_changes_189 rfl (lv_at hl 1 rfl) ?_
        refine lv_dup hx hb dX12_changes_190 rfl ?_
        refine gtX12_234 hx hb hts hown hK hW cz12 dX12_changes_191 ?_
        refine lv_iconst (v := (1 : Int32)) hx hb dX12_changes_194 (by decide) ?_
        refine lv_iadd hx hb dX12_changes_195 ?_
        refine lv_topi (fun v81 ev81 => ?_)
        have h := nm_a ev81 h
        refine ptX12_234 hx hb hts hown hK hW hS cz12 dX12_changes_196 (fun H locs hW hS => ?_)
        obtain ⟨M82, eM82⟩ : ∃ y, y = msI M80 1224 0 0 v81 := ⟨_, rfl⟩
        have h := nm_a eM82 h
        rw [← eM82] at hW
        refine lv_aload_n hx hb dX12_changes_199 rfl (lv_at hl 1 rfl) ?_
        refine lv_iload_n hx hb dX12_changes_200 rfl (lv_at hl 2 rfl) ?_
        refine lv_iload_n hx hb dX12_changes_201 rfl (lv_at hl 3 rfl) ?_
        refine lv_iload_n hx hb dX12_changes_202 rfl (lv_at hl 4 rfl) ?_
        obtain ⟨u83, M84, hcu83, h⟩ := bE_a h
        refine tb_cVV hZk hx hb hml hown hts hK hZ hW hS [.int x1, .int x2, .int x3] (mX12_set (l := l) hZk x1 x2 x3 M82 u83 M84 hcu83) pmX12_set tw1500 (Wd.recv hK hW (t := 12) (by decide) cz12 (C := RX12) (T := TX12) (N := 58) rfl) ⟨Nat.le_of_ble_eq_true rfl, Nat.le_of_ble_eq_true rfl⟩ rfl hl.1 (Nat.le_of_ble_eq_true rfl) ⟨Nat.le_refl _, Nat.le_refl _⟩ rfl dX12_changes_203 (fun H locs hW hS => ?_)
        refine lv_iload hx hb dX12_changes_206 (lv_at hl 0 rfl) ?_
        exact tb_iretE h hx hb hr hS hW hlk dX12_changes_208
      · have h := sh_t c76 h
        refine lv_iconst (v := (1 : Int32)) hx hb dX12_changes_58 (by decide) ?_
        refine lv_istore (lv' := [(5, .int (1 : Int32)), (4, .int v73), (0, .ref (ad 12 0)), (1, .int x1), (2, .int x2), (3, .int x3)]) hx hb dX12_changes_59 hl (by decide) rfl (fun ls hl => ?_)
        have L85 : ∀ (n85 : Nat) (i86 : Int32) (M87 : Mem) (H : Heap) (locs : List Loc) (ls : Array Slot), Wd D cy A cnM ad M87 H → va_S A s.heap H locs → lv_has ls 6 [(0, .ref (ad 12 0)), (1, .int x1), (2, .int x2), (3, .int x3), (4, .int v73), (5, .int i86)] → fX12_changes_l61_85 x1 x2 v73 x3 n85 i86 M87 = some (r, M') → W p l e (rm 1 23) s m args below meth c H locs 0 0 (MQ below (QI D cy A cnM ad r M') args s 0 0 A) (F0 m 61 ls []) := by
          intro n85
          induction n85 with
          | zero => intro i86 M87 H locs ls hW hS hl h; cases h
          | succ n85 ih85 =>
            intro i86 M87 H locs ls hW hS hl h
            unfold fX12_changes_l61_85 fX12_changes_b61_85 at h
            refine lv_iload hx hb dX12_changes_61 (lv_at hl 5 rfl) ?_
            refine lv_bipush (v := (40 : Int32)) hx hb dX12_changes_63 (by decide) ?_
            refine lv_icmp_ge (tgt := 138) hx hb dX12_changes_65 (by decide) (fun c88 => ?_) (fun c88 => ?_)
            · have h := sh_t c88 h
              refine lv_aload_n hx hb dX12_changes_138 rfl (lv_at hl 0 rfl) ?_
              refine lv_dup hx hb dX12_changes_139 rfl ?_
              refine gtX12_234 hx hb hts hown hK hW cz12 dX12_changes_140 ?_
              refine lv_iconst (v := (1 : Int32)) hx hb dX12_changes_143 (by decide) ?_
              refine lv_isub hx hb dX12_changes_144 ?_
              refine lv_topi (fun v89 ev89 => ?_)
              have h := nm_a ev89 h
              refine ptX12_234 hx hb hts hown hK hW hS cz12 dX12_changes_145 (fun H locs hW hS => ?_)
              obtain ⟨M90, eM90⟩ : ∃ y, y = msI M87 1224 0 0 v89 := ⟨_, rfl⟩
              have h := nm_a eM90 h
              rw [← eM90] at hW
              refine lv_aload_n hx hb dX12_changes_148 rfl (lv_at hl 0 rfl) ?_
              refine gtX12_72 hx hb hts hown hK hW cz12 dX12_changes_149 ?_
              refine lv_aload_n hx hb dX12_changes_152 rfl (lv_at hl 0 rfl) ?_
              refine gtX12_234 hx hb hts hown hK hW cz12 dX12_changes_153 ?_
              refine lv_iload_n hx hb dX12_changes_156 rfl (lv_at hl 1 rfl) ?_
              obtain ⟨hj, h⟩ := ix_a h
              refine as70 hx hb hK hW hS cz70 hj dX12_changes_157 (fun H locs hW hS => ?_)
              obtain ⟨M91, eM91⟩ : ∃ y, y = msI M90 7000 0 ((mgI M90 1224 0 0).toNatClampNeg) x1 := ⟨_, rfl⟩
              have h := nm_a eM91 h
              rw [← eM91] at hW
              refine lv_aload_n hx hb dX12_changes_158 rfl (lv_at hl 0 rfl) ?_
              refine gtX12_75 hx hb hts hown hK hW cz12 dX12_changes_159 ?_
              refine lv_aload_n hx hb dX12_changes_162 rfl (lv_at hl 0 rfl) ?_
              refine gtX12_234 hx hb hts hown hK hW cz12 dX12_changes_163 ?_
              refine lv_iload_n hx hb dX12_changes_166 rfl (lv_at hl 2 rfl) ?_
              obtain ⟨hj, h⟩ := ix_a h
              refine as71 hx hb hK hW hS cz71 hj dX12_changes_167 (fun H locs hW hS => ?_)
              obtain ⟨M92, eM92⟩ : ∃ y, y = msI M91 7100 0 ((mgI M91 1224 0 0).toNatClampNeg) x2 := ⟨_, rfl⟩
              have h := nm_a eM92 h
              rw [← eM92] at hW
              refine lv_aload_n hx hb dX12_changes_168 rfl (lv_at hl 0 rfl) ?_
              refine gtX12_78 hx hb hts hown hK hW cz12 dX12_changes_169 ?_
              refine lv_aload_n hx hb dX12_changes_172 rfl (lv_at hl 0 rfl) ?_
              refine gtX12_234 hx hb hts hown hK hW cz12 dX12_changes_173 ?_
              refine lv_iload hx hb dX12_changes_176 (lv_at hl 4 rfl) ?_
              obtain ⟨hj, h⟩ := ix_a h
              refine as72 hx hb hK hW hS cz72 hj dX12_changes_178 (fun H locs hW hS => ?_)
              obtain ⟨M93, eM93⟩ : ∃ y, y = msI M92 7200 0 ((mgI M92 1224 0 0).toNatClampNeg) v73 := ⟨_, rfl⟩
              have h := nm_a eM93 h
              rw [← eM93] at hW
              refine lv_aload_n hx hb dX12_changes_179 rfl (lv_at hl 0 rfl) ?_
              refine gtX12_81 hx hb hts hown hK hW cz12 dX12_changes_180 ?_
              refine lv_aload_n hx hb dX12_changes_183 rfl (lv_at hl 0 rfl) ?_
              refine gtX12_234 hx hb hts hown hK hW cz12 dX12_changes_184 ?_
              refine lv_iload_n hx hb dX12_changes_187 rfl (lv_at hl 3 rfl) ?_
              obtain ⟨hj, h⟩ := ix_a h
              refine as73 hx hb hK hW hS cz73 hj dX12_changes_188 (fun H locs hW hS => ?_)
              obtain ⟨M94, eM94⟩ : ∃ y, y = msI M93 7300 0 ((mgI M93 1224 0 0).toNatClampNeg) x3 := ⟨_, rfl⟩
              have h := nm_a eM94 h
              rw [← eM94] at hW
              refine lv_aload_n hx hb dX12_changes_189 rfl (lv_at hl 0 rfl) ?_
              refine lv_dup hx hb dX12_changes_190 rfl ?_
              refine gtX12_234 hx hb hts hown hK hW cz12 dX12_changes_191 ?_
              refine lv_iconst (v := (1 : Int32)) hx hb dX12_changes_194 (by decide) ?_
              refine lv_iadd hx hb dX12_changes_195 ?_
              refine lv_topi (fun v95 ev95 => ?_)
              have h := nm_a ev95 h
              refine ptX12_234 hx hb hts hown hK hW hS cz12 dX12_changes_196 (fun H locs hW hS => ?_)
              obtain ⟨M96, eM96⟩ : ∃ y, y = msI M94 1224 0 0 v95 := ⟨_, rfl⟩
              have h := nm_a eM96 h
              rw [← eM96] at hW
              refine lv_aload_n hx hb dX12_changes_199 rfl (lv_at hl 0 rfl) ?_
              refine lv_iload_n hx hb dX12_changes_200 rfl (lv_at hl 1 rfl) ?_
              refine lv_iload_n hx hb dX12_changes_201 rfl (lv_at hl 2 rfl) ?_
              refine lv_iload_n hx hb dX12_changes_202 rfl (lv_at hl 3 rfl) ?_
              obtain ⟨u97, M98, hcu97, h⟩ := bE_a h
              refine tb_cVV hZk hx hb hml hown hts hK hZ hW hS [.int x1, .int x2, .int x3] (mX12_set (l := l) hZk x1 x2 x3 M96 u97 M98 hcu97) pmX12_set tw1500 (Wd.recv hK hW (t := 12) (by decide) cz12 (C := RX12) (T := TX12) (N := 58) rfl) ⟨Nat.le_of_ble_eq_true rfl, Nat.le_of_ble_eq_true rfl⟩ rfl hl.1 (Nat.le_of_ble_eq_true rfl) ⟨Nat.le_refl _, Nat.le_refl _⟩ rfl dX12_changes_203 (fun H locs hW hS => ?_)
              refine lv_iload hx hb dX12_changes_206 (lv_at hl 4 rfl) ?_
              exact tb_iretE h hx hb hr hS hW hlk dX12_changes_208
            · have h := sh_f c88 h
              refine lv_aload_n hx hb dX12_changes_68 rfl (lv_at hl 0 rfl) ?_
              refine gtX12_72 hx hb hts hown hK hW cz12 dX12_changes_69 ?_
              refine lv_iload hx hb dX12_changes_72 (lv_at hl 5 rfl) ?_
              refine lv_iconst (v := (1 : Int32)) hx hb dX12_changes_74 (by decide) ?_
              refine lv_isub hx hb dX12_changes_75 ?_
              refine lv_aload_n hx hb dX12_changes_76 rfl (lv_at hl 0 rfl) ?_
              refine gtX12_72 hx hb hts hown hK hW cz12 dX12_changes_77 ?_
              refine lv_iload hx hb dX12_changes_80 (lv_at hl 5 rfl) ?_
              obtain ⟨hj, h⟩ := ix_a h
              refine al70 hx hb hK hW cz70 hj dX12_changes_82 ?_
              refine lv_topi (fun v99 ev99 => ?_)
              have h := nm_a ev99 h
              obtain ⟨hj, h⟩ := ix_a h
              refine as70 hx hb hK hW hS cz70 hj dX12_changes_83 (fun H locs hW hS => ?_)
              obtain ⟨M100, eM100⟩ : ∃ y, y = msI M87 7000 0 ((i86 - (1 : Int32)).toNatClampNeg) v99 := ⟨_, rfl⟩
              have h := nm_a eM100 h
              rw [← eM100] at hW
              refine lv_aload_n hx hb dX12_changes_84 rfl (lv_at hl 0 rfl) ?_
              refine gtX12_75 hx hb hts hown hK hW cz12 dX12_changes_85 ?_
              refine lv_iload hx hb dX12_changes_88 (lv_at hl 5 rfl) ?_
              refine lv_iconst (v := (1 : Int32)) hx hb dX12_changes_90 (by decide) ?_
              refine lv_isub hx hb dX12_changes_91 ?_
              refine lv_aload_n hx hb dX12_changes_92 rfl (lv_at hl 0 rfl) ?_
              refine gtX12_75 hx hb hts hown hK hW cz12 dX12_changes_93 ?_
              refine lv_iload hx hb dX12_changes_96 (lv_at hl 5 rfl) ?_
              obtain ⟨hj, h⟩ := ix_a h
              refine al71 hx hb hK hW cz71 hj dX12_changes_98 ?_
              refine lv_topi (fun v101 ev101 => ?_)
              have h := nm_a ev101 h
              obtain ⟨hj, h⟩ := ix_a h
              refine as71 hx hb hK hW hS cz71 hj dX12_changes_99 (fun H locs hW hS => ?_)
              obtain ⟨M102, eM102⟩ : ∃ y, y = msI M100 7100 0 ((i86 - (1 : Int32)).toNatClampNeg) v101 := ⟨_, rfl⟩
              have h := nm_a eM102 h
              rw [← eM102] at hW
              refine lv_aload_n hx hb dX12_changes_100 rfl (lv_at hl 0 rfl) ?_
              refine gtX12_78 hx hb hts hown hK hW cz12 dX12_changes_101 ?_
              refine lv_iload hx hb dX12_changes_104 (lv_at hl 5 rfl) ?_
              refine lv_iconst (v := (1 : Int32)) hx hb dX12_changes_106 (by decide) ?_
              refine lv_isub hx hb dX12_changes_107 ?_
              refine lv_aload_n hx hb dX12_changes_108 rfl (lv_at hl 0 rfl) ?_
              refine gtX12_78 hx hb hts hown hK hW cz12 dX12_changes_109 ?_
              refine lv_iload hx hb dX12_changes_112 (lv_at hl 5 rfl) ?_
              obtain ⟨hj, h⟩ := ix_a h
              refine al72 hx hb hK hW cz72 hj dX12_changes_114 ?_
              refine lv_topi (fun v103 ev103 => ?_)
              have h := nm_a ev103 h
              obtain ⟨hj, h⟩ := ix_a h
              refine as72 hx hb hK hW hS cz72 hj dX12_changes_115 (fun H locs hW hS => ?_)
              obtain ⟨M104, eM104⟩ : ∃ y, y = msI M102 7200 0 ((i86 - (1 : Int32)).toNatClampNeg) v103 := ⟨_, rfl⟩
              have h := nm_a eM104 h
              rw [← eM104] at hW
              refine lv_aload_n hx hb dX12_changes_116 rfl (lv_at hl 0 rfl) ?_
              refine gtX12_81 hx hb hts hown hK hW cz12 dX12_changes_117 ?_
              refine lv_iload hx hb dX12_changes_120 (lv_at hl 5 rfl) ?_
              refine lv_iconst (v := (1 : Int32)) hx hb dX12_changes_122 (by decide) ?_
              refine lv_isub hx hb dX12_changes_123 ?_
              refine lv_aload_n hx hb dX12_changes_124 rfl (lv_at hl 0 rfl) ?_
              refine gtX12_81 hx hb hts hown hK hW cz12 dX12_changes_125 ?_
              refine lv_iload hx hb dX12_changes_128 (lv_at hl 5 rfl) ?_
              obtain ⟨hj, h⟩ := ix_a h
              refine al73 hx hb hK hW cz73 hj dX12_changes_130 ?_
              refine lv_topi (fun v105 ev105 => ?_)
              have h := nm_a ev105 h
              obtain ⟨hj, h⟩ := ix_a h
              refine as73 hx hb hK hW hS cz73 hj dX12_changes_131 (fun H locs hW hS => ?_)
              obtain ⟨M106, eM106⟩ : ∃ y, y = msI M104 7300 0 ((i86 - (1 : Int32)).toNatClampNeg) v105 := ⟨_, rfl⟩
              have h := nm_a eM106 h
              rw [← eM106] at hW
              obtain ⟨v107, ev107⟩ : ∃ y : Int32, y = i86 + (1 : Int32) := ⟨_, rfl⟩
              have h := nm_a ev107 h
              refine lv_iinc (v := v107) (lv' := [(5, .int v107), (0, .ref (ad 12 0)), (1, .int x1), (2, .int x2), (3, .int x3), (4, .int v73)]) hx hb dX12_changes_132 hl (k := 5) rfl (by rw [ev107]; rfl) (by decide) rfl (fun ls hl => ?_)
              refine lv_goto (tgt := 61) hx hb dX12_changes_135 (by decide) ?_
              exact ih85 v107 M106 _ _ _ hW hS (lv_sub hl [1, 2, 3, 4, 5, 0] rfl) h
        exact L85 FU (1 : Int32) M75 _ _ _ hW hS (lv_sub hl [2, 3, 4, 5, 1, 0] rfl) h
    · have h := sh_t c74 h
      refine lv_iload hx hb dX12_changes_41 (lv_at hl 0 rfl) ?_
      exact tb_iretE h hx hb hr hS hW hlk dX12_changes_43
def fX12_undo (M0 : Mem) : Option (Int32 × Mem) :=
  if (mgI M0 1224 0 0) = 0 then (some ((-5 : Int32), M0)) else (nm ((mgI M0 1224 0 0) - (1 : Int32)) fun v2 => nm (msI M0 1224 0 0 v2) fun M3 => nm ((mgI M3 1225 0 0) + (1 : Int32)) fun v4 => nm (msI M3 1225 0 0 v4) fun M5 => ix (mgI M5 1224 0 0) 40 <| ix (mgI M5 1224 0 0) 40 <| ix (mgI M5 1224 0 0) 40 <| bE (fX12_set (mgI M5 7000 0 (mgI M5 1224 0 0).toNatClampNeg) (mgI M5 7100 0 (mgI M5 1224 0 0).toNatClampNeg) (mgI M5 7200 0 (mgI M5 1224 0 0).toNatClampNeg) M5) fun u6 M7 => some (mgI M7 1224 0 0, M7))
set_option maxHeartbeats 4000000 in
set_option maxRecDepth 100000 in
theorem mX12_undo {l : Launch} {D : va_G} {cy : Nat → ClassId} {A : Nat → Prop} {Z : State → Heap → Prop} {ad : Nat → Nat → Nat} (hZk : ZOK A Z) (M0 : Mem) (r : Int32) (M' : Mem) (h : fX12_undo M0 = some (r, M')) : Met l yX12_undo (wt yX12_undo cX12_undo 1 (some .int)) (rm 1 23) (CPre D cy A Z cnM ad M0 [.ref (ad 12 0)]) (QI D cy A cnM ad r M') 0 0 A := by
  refine tb_start [.ref (ad 12 0)] [(0, .ref (ad 12 0))] RX12 rfl (by decide +kernel) (Nat.le_of_ble_eq_true rfl) rfl (fun p e s m args below meth c hx hb hr hml hown hts hlk hW hK hZ ls hl => ?_)
  have hS : va_S A s.heap s.heap [] := va_S.rf
  unfold fX12_undo at h
  refine lv_aload_n hx hb dX12_undo_0 rfl (lv_at hl 0 rfl) ?_
  refine gtX12_234 hx hb hts hown hK hW cz12 dX12_undo_1 ?_
  refine lv_if_ne (tgt := 10) hx hb dX12_undo_4 (by decide) (fun c1 => ?_) (fun c1 => ?_)
  · have h := sh_f c1 h
    refine lv_aload_n hx hb dX12_undo_10 rfl (lv_at hl 0 rfl) ?_
    refine lv_dup hx hb dX12_undo_11 rfl ?_
    refine gtX12_234 hx hb hts hown hK hW cz12 dX12_undo_12 ?_
    refine lv_iconst (v := (1 : Int32)) hx hb dX12_undo_15 (by decide) ?_
    refine lv_isub hx hb dX12_undo_16 ?_
    refine lv_topi (fun v2 ev2 => ?_)
    have h := nm_a ev2 h
    refine ptX12_234 hx hb hts hown hK hW hS cz12 dX12_undo_17 (fun H locs hW hS => ?_)
    obtain ⟨M3, eM3⟩ : ∃ y, y = msI M0 1224 0 0 v2 := ⟨_, rfl⟩
    have h := nm_a eM3 h
    rw [← eM3] at hW
    refine lv_aload_n hx hb dX12_undo_20 rfl (lv_at hl 0 rfl) ?_
    refine lv_dup hx hb dX12_undo_21 rfl ?_
    refine gtX12_231 hx hb hts hown hK hW cz12 dX12_undo_22 ?_
    refine lv_iconst (v := (1 : Int32)) hx hb dX12_undo_25 (by decide) ?_
    refine lv_iadd hx hb dX12_undo_26 ?_
    refine lv_topi (fun v4 ev4 => ?_)
    have h := nm_a ev4 h
    refine ptX12_231 hx hb hts hown hK hW hS cz12 dX12_undo_27 (fun H locs hW hS => ?_)
    obtain ⟨M5, eM5⟩ : ∃ y, y = msI M3 1225 0 0 v4 := ⟨_, rfl⟩
    have h := nm_a eM5 h
    rw [← eM5] at hW
    refine lv_aload_n hx hb dX12_undo_30 rfl (lv_at hl 0 rfl) ?_
    refine lv_aload_n hx hb dX12_undo_31 rfl (lv_at hl 0 rfl) ?_
    refine gtX12_72 hx hb hts hown hK hW cz12 dX12_undo_32 ?_
    refine lv_aload_n hx hb dX12_undo_35 rfl (lv_at hl 0 rfl) ?_
    refine gtX12_234 hx hb hts hown hK hW cz12 dX12_undo_36 ?_
    obtain ⟨hj, h⟩ := ix_a h
    refine al70 hx hb hK hW cz70 hj dX12_undo_39 ?_
    refine lv_aload_n hx hb dX12_undo_40 rfl (lv_at hl 0 rfl) ?_
    refine gtX12_75 hx hb hts hown hK hW cz12 dX12_undo_41 ?_
    refine lv_aload_n hx hb dX12_undo_44 rfl (lv_at hl 0 rfl) ?_
    refine gtX12_234 hx hb hts hown hK hW cz12 dX12_undo_45 ?_
    obtain ⟨hj, h⟩ := ix_a h
    refine al71 hx hb hK hW cz71 hj dX12_undo_48 ?_
    refine lv_aload_n hx hb dX12_undo_49 rfl (lv_at hl 0 rfl) ?_
    refine gtX12_78 hx hb hts hown hK hW cz12 dX12_undo_50 ?_
    refine lv_aload_n hx hb dX12_undo_53 rfl (lv_at hl 0 rfl) ?_
    refine gtX12_234 hx hb hts hown hK hW cz12 dX12_undo_54 ?_
    obtain ⟨hj, h⟩ := ix_a h
    refine al72 hx hb hK hW cz72 hj dX12_undo_57 ?_
    obtain ⟨u6, M7, hcu6, h⟩ := bE_a h
    refine tb_cVV hZk hx hb hml hown hts hK hZ hW hS [.int (mgI M5 7000 0 (mgI M5 1224 0 0).toNatClampNeg), .int (mgI M5 7100 0 (mgI M5 1224 0 0).toNatClampNeg), .int (mgI M5 7200 0 (mgI M5 1224 0 0).toNatClampNeg)] (mX12_set (l := l) hZk (mgI M5 7000 0 (mgI M5 1224 0 0).toNatClampNeg) (mgI M5 7100 0 (mgI M5 1224 0 0).toNatClampNeg) (mgI M5 7200 0 (mgI M5 1224 0 0).toNatClampNeg) M5 u6 M7 hcu6) pmX12_set tw1500 (Wd.recv hK hW (t := 12) (by decide) cz12 (C := RX12) (T := TX12) (N := 58) rfl) ⟨Nat.le_of_ble_eq_true rfl, Nat.le_of_ble_eq_true rfl⟩ rfl hl.1 (Nat.le_of_ble_eq_true rfl) ⟨Nat.le_refl _, Nat.le_refl _⟩ rfl dX12_undo_58 (fun H locs hW hS => ?_)
    refine lv_aload_n hx hb dX12_undo_61 rfl (lv_at hl 0 rfl) ?_
    refine gtX12_234 hx hb hts hown hK hW cz12 dX12_undo_62 ?_
    exact tb_iretE h hx hb hr hS hW hlk dX12_undo_65
  · have h := sh_t c1 h
    refine lv_bipush (v := (-5 : Int32)) hx hb dX12_undo_7 (by decide) ?_
    exact tb_iretE h hx hb hr hS hW hlk dX12_undo_9
def fX12_redo (M0 : Mem) : Option (Int32 × Mem) :=
  if (mgI M0 1225 0 0) = 0 then (some ((-5 : Int32), M0)) else (ix (mgI M0 1224 0 0) 40 <| ix (mgI M0 1224 0 0) 40 <| ix (mgI M0 1224 0 0) 40 <| bE (fX12_set (mgI M0 7000 0 (mgI M0 1224 0 0).toNatClampNeg) (mgI M0 7100 0 (mgI M0 1224 0 0).toNatClampNeg) (mgI M0 7300 0 (mgI M0 1224 0 0).toNatClampNeg) M0) fun u2 M3 => nm ((mgI M3 1224 0 0) + (1 : Int32)) fun v4 => nm (msI M3 1224 0 0 v4) fun M5 => nm ((mgI M5 1225 0 0) - (1 : Int32)) fun v6 => nm (msI M5 1225 0 0 v6) fun M7 => some (mgI M7 1225 0 0, M7))
set_option maxHeartbeats 4000000 in
set_option maxRecDepth 100000 in
theorem mX12_redo {l : Launch} {D : va_G} {cy : Nat → ClassId} {A : Nat → Prop} {Z : State → Heap → Prop} {ad : Nat → Nat → Nat} (hZk : ZOK A Z) (M0 : Mem) (r : Int32) (M' : Mem) (h : fX12_redo M0 = some (r, M')) : Met l yX12_redo (wt yX12_redo cX12_redo 1 (some .int)) (rm 1 23) (CPre D cy A Z cnM ad M0 [.ref (ad 12 0)]) (QI D cy A cnM ad r M') 0 0 A := by
  refine tb_start [.ref (ad 12 0)] [(0, .ref (ad 12 0))] RX12 rfl (by decide +kernel) (Nat.le_of_ble_eq_true rfl) rfl (fun p e s m args below meth c hx hb hr hml hown hts hlk hW hK hZ ls hl => ?_)
  have hS : va_S A s.heap s.heap [] := va_S.rf
  unfold fX12_redo at h
  refine lv_aload_n hx hb dX12_redo_0 rfl (lv_at hl 0 rfl) ?_
  refine gtX12_231 hx hb hts hown hK hW cz12 dX12_redo_1 ?_
  refine lv_if_ne (tgt := 10) hx hb dX12_redo_4 (by decide) (fun c1 => ?_) (fun c1 => ?_)
  · have h := sh_f c1 h
    refine lv_aload_n hx hb dX12_redo_10 rfl (lv_at hl 0 rfl) ?_
    refine lv_aload_n hx hb dX12_redo_11 rfl (lv_at hl 0 rfl) ?_
    refine gtX12_72 hx hb hts hown hK hW cz12 dX12_redo_12 ?_
    refine lv_aload_n hx hb dX12_redo_15 rfl (lv_at hl 0 rfl) ?_
    refine gtX12_234 hx hb hts hown hK hW cz12 dX12_redo_16 ?_
    obtain ⟨hj, h⟩ := ix_a h
    refine al70 hx hb hK hW cz70 hj dX12_redo_19 ?_
    refine lv_aload_n hx hb dX12_redo_20 rfl (lv_at hl 0 rfl) ?_
    refine gtX12_75 hx hb hts hown hK hW cz12 dX12_redo_21 ?_
    refine lv_aload_n hx hb dX12_redo_24 rfl (lv_at hl 0 rfl) ?_
    refine gtX12_234 hx hb hts hown hK hW cz12 dX12_redo_25 ?_
    obtain ⟨hj, h⟩ := ix_a h
    refine al71 hx hb hK hW cz71 hj dX12_redo_28 ?_
    refine lv_aload_n hx hb dX12_redo_29 rfl (lv_at hl 0 rfl) ?_
    refine gtX12_81 hx hb hts hown hK hW cz12 dX12_redo_30 ?_
    refine lv_aload_n hx hb dX12_redo_33 rfl (lv_at hl 0 rfl) ?_
    refine gtX12_234 hx hb hts hown hK hW cz12 dX12_redo_34 ?_
    obtain ⟨hj, h⟩ := ix_a h
    refine al73 hx hb hK hW cz73 hj dX12_redo_37 ?_
    obtain ⟨u2, M3, hcu2, h⟩ := bE_a h
    refine tb_cVV hZk hx hb hml hown hts hK hZ hW hS [.int (mgI M0 7000 0 (mgI M0 1224 0 0).toNatClampNeg), .int (mgI M0 7100 0 (mgI M0 1224 0 0).toNatClampNeg), .int (mgI M0 7300 0 (mgI M0 1224 0 0).toNatClampNeg)] (mX12_set (l := l) hZk (mgI M0 7000 0 (mgI M0 1224 0 0).toNatClampNeg) (mgI M0 7100 0 (mgI M0 1224 0 0).toNatClampNeg) (mgI M0 7300 0 (mgI M0 1224 0 0).toNatClampNeg) M0 u2 M3 hcu2) pmX12_set tw1500 (Wd.recv hK hW (t := 12) (by decide) cz12 (C := RX12) (T := TX12) (N := 58) rfl) ⟨Nat.le_of_ble_eq_true rfl, Nat.le_of_ble_eq_true rfl⟩ rfl hl.1 (Nat.le_of_ble_eq_true rfl) ⟨Nat.le_refl _, Nat.le_refl _⟩ rfl dX12_redo_38 (fun H locs hW hS => ?_)
    refine lv_aload_n hx hb dX12_redo_41 rfl (lv_at hl 0 rfl) ?_
    refine lv_dup hx hb dX12_redo_42 rfl ?_
    refine gtX12_234 hx hb hts hown hK hW cz12 dX12_redo_43 ?_
    refine lv_iconst (v := (1 : Int32)) hx hb dX12_redo_46 (by decide) ?_
    refine lv_iadd hx hb dX12_redo_47 ?_
    refine lv_topi (fun v4 ev4 => ?_)
    have h := nm_a ev4 h
    refine ptX12_234 hx hb hts hown hK hW hS cz12 dX12_redo_48 (fun H locs hW hS => ?_)
    obtain ⟨M5, eM5⟩ : ∃ y, y = msI M3 1224 0 0 v4 := ⟨_, rfl⟩
    have h := nm_a eM5 h
    rw [← eM5] at hW
    refine lv_aload_n hx hb dX12_redo_51 rfl (lv_at hl 0 rfl) ?_
    refine lv_dup hx hb dX12_redo_52 rfl ?_
    refine gtX12_231 hx hb hts hown hK hW cz12 dX12_redo_53 ?_
    refine lv_iconst (v := (1 : Int32)) hx hb dX12_redo_56 (by decide) ?_
    refine lv_isub hx hb dX12_redo_57 ?_
    refine lv_topi (fun v6 ev6 => ?_)
    have h := nm_a ev6 h
    refine ptX12_231 hx hb hts hown hK hW hS cz12 dX12_redo_58 (fun H locs hW hS => ?_)
    obtain ⟨M7, eM7⟩ : ∃ y, y = msI M5 1225 0 0 v6 := ⟨_, rfl⟩
    have h := nm_a eM7 h
    rw [← eM7] at hW
    refine lv_aload_n hx hb dX12_redo_61 rfl (lv_at hl 0 rfl) ?_
    refine gtX12_231 hx hb hts hown hK hW cz12 dX12_redo_62 ?_
    exact tb_iretE h hx hb hr hS hW hlk dX12_redo_65
  · have h := sh_t c1 h
    refine lv_bipush (v := (-5 : Int32)) hx hb dX12_redo_7 (by decide) ?_
    exact tb_iretE h hx hb hr hS hW hlk dX12_redo_9
def fX12_change (x1 : Int32) (x2 : Int32) (x3 : Int32) (M0 : Mem) : Option (Int32 × Mem) :=
  nm (fX12_isLine x1 M0) fun b1 => if b1 = 0 then (some ((-1 : Int32), M0)) else (if x2 = 0 then (nm (fX12_in x3 (1 : Int32) (99 : Int32)) fun b9 => if b9 = 0 then (if x2 = (1 : Int32) then (nm (fX12_in x3 (0 : Int32) (2 : Int32)) fun b14 => if b14 = 0 then (some ((-1 : Int32), M0)) else (bE (fX12_changes x2 x1 x3 M0) fun b16 M17 => some (b16, M17))) else (some ((-1 : Int32), M0))) else (bE (fX12_changes x2 x1 x3 M0) fun b11 M12 => some (b11, M12))) else (if x2 = (1 : Int32) then (nm (fX12_in x3 (0 : Int32) (2 : Int32)) fun b5 => if b5 = 0 then (some ((-1 : Int32), M0)) else (bE (fX12_changes x2 x1 x3 M0) fun b7 M8 => some (b7, M8))) else (some ((-1 : Int32), M0))))
set_option maxHeartbeats 4000000 in
set_option maxRecDepth 100000 in
theorem mX12_change {l : Launch} {D : va_G} {cy : Nat → ClassId} {A : Nat → Prop} {Z : State → Heap → Prop} {ad : Nat → Nat → Nat} (hZk : ZOK A Z) (x1 : Int32) (x2 : Int32) (x3 : Int32) (M0 : Mem) (r : Int32) (M' : Mem) (h : fX12_change x1 x2 x3 M0 = some (r, M')) : Met l yX12_change (wt yX12_change cX12_change 4 (some .int)) (rm 2 48) (CPre D cy A Z cnM ad M0 [.ref (ad 12 0), .int x1, .int x2, .int x3]) (QI D cy A cnM ad r M') 0 0 A := by
  refine tb_start [.ref (ad 12 0), .int x1, .int x2, .int x3] [(0, .ref (ad 12 0)), (1, .int x1), (2, .int x2), (3, .int x3)] RX12 rfl (by decide +kernel) (Nat.le_of_ble_eq_true rfl) rfl (fun p e s m args below meth c hx hb hr hml hown hts hlk hW hK hZ ls hl => ?_)
  have hS : va_S A s.heap s.heap [] := va_S.rf
  unfold fX12_change at h
  refine lv_aload_n hx hb dX12_change_0 rfl (lv_at hl 0 rfl) ?_
  refine lv_iload_n hx hb dX12_change_1 rfl (lv_at hl 1 rfl) ?_
  refine tb_cVZ hZk hx hb hml hown hts hK hZ hW hS [.int x1] (mX12_isLine (l := l) hZk x1 M0 (fX12_isLine x1 M0) rfl) pmX12_isLine tw1492 (Wd.recv hK hW (t := 12) (by decide) cz12 (C := RX12) (T := TX12) (N := 58) rfl) ⟨Nat.le_of_ble_eq_true rfl, Nat.le_of_ble_eq_true rfl⟩ rfl hl.1 (Nat.le_of_ble_eq_true rfl) ⟨Nat.le_refl _, Nat.le_refl _⟩ rfl dX12_change_2 (fun H locs hW hS hzz => ?_)
  refine lv_topi (fun b1 eb1 => ?_)
  have h := nm_a eb1 h
  have hzb1 : b1 = 0 ∨ b1 = 1 := by rw [eb1]; exact hzz
  refine lv_if_eq (tgt := 46) hx hb dX12_change_5 (by decide) (fun c2 => ?_) (fun c2 => ?_)
  · have h := sh_t c2 h
    refine lv_iconst (v := (-1 : Int32)) hx hb dX12_change_46 (by decide) ?_
    exact tb_iretE h hx hb hr hS hW hlk dX12_change_47
  · have h := sh_f c2 h
    refine lv_iload_n hx hb dX12_change_8 rfl (lv_at hl 2 rfl) ?_
    refine lv_if_ne (tgt := 22) hx hb dX12_change_9 (by decide) (fun c3 => ?_) (fun c3 => ?_)
    · have h := sh_f c3 h
      refine lv_iload_n hx hb dX12_change_22 rfl (lv_at hl 2 rfl) ?_
      refine lv_iconst (v := (1 : Int32)) hx hb dX12_change_23 (by decide) ?_
      refine lv_icmp_ne (tgt := 46) hx hb dX12_change_24 (by decide) (fun c4 => ?_) (fun c4 => ?_)
      · have h := sh_f c4 h
        refine lv_iconst (v := (-1 : Int32)) hx hb dX12_change_46 (by decide) ?_
        exact tb_iretE h hx hb hr hS hW hlk dX12_change_47
      · have h := sh_t c4 h
        refine lv_iload_n hx hb dX12_change_27 rfl (lv_at hl 3 rfl) ?_
        refine lv_iconst (v := (0 : Int32)) hx hb dX12_change_28 (by decide) ?_
        refine lv_iconst (v := (2 : Int32)) hx hb dX12_change_29 (by decide) ?_
        refine tb_cSZ hZk hx hb hml hown hts hK hZ hW hS [.int x3, .int (0 : Int32), .int (2 : Int32)] (mX12_in (l := l) hZk x3 (0 : Int32) (2 : Int32) M0 (fX12_in x3 (0 : Int32) (2 : Int32)) rfl) pmX12_in tw1401 ⟨Nat.le_of_ble_eq_true rfl, Nat.le_of_ble_eq_true rfl⟩ rfl hl.1 (Nat.le_of_ble_eq_true rfl) ⟨Nat.le_refl _, Nat.le_refl _⟩ rfl dX12_change_30 (fun H locs hW hS hzz => ?_)
        refine lv_topi (fun b5 eb5 => ?_)
        have h := nm_a eb5 h
        have hzb5 : b5 = 0 ∨ b5 = 1 := by rw [eb5]; exact hzz
        refine lv_if_eq (tgt := 46) hx hb dX12_change_33 (by decide) (fun c6 => ?_) (fun c6 => ?_)
        · have h := sh_t c6 h
          refine lv_iconst (v := (-1 : Int32)) hx hb dX12_change_46 (by decide) ?_
          exact tb_iretE h hx hb hr hS hW hlk dX12_change_47
        · have h := sh_f c6 h
          refine lv_aload_n hx hb dX12_change_36 rfl (lv_at hl 0 rfl) ?_
          refine lv_iload_n hx hb dX12_change_37 rfl (lv_at hl 2 rfl) ?_
          refine lv_iload_n hx hb dX12_change_38 rfl (lv_at hl 1 rfl) ?_
          refine lv_iload_n hx hb dX12_change_39 rfl (lv_at hl 3 rfl) ?_
          obtain ⟨b7, M8, hcb7, h⟩ := bE_a h
          refine tb_cVI hZk hx hb hml hown hts hK hZ hW hS [.int x2, .int x1, .int x3] (mX12_changes (l := l) hZk x2 x1 x3 M0 b7 M8 hcb7) pmX12_changes tw1512 (Wd.recv hK hW (t := 12) (by decide) cz12 (C := RX12) (T := TX12) (N := 58) rfl) ⟨Nat.le_of_ble_eq_true rfl, Nat.le_of_ble_eq_true rfl⟩ rfl hl.1 (Nat.le_of_ble_eq_true rfl) ⟨Nat.le_refl _, Nat.le_refl _⟩ rfl dX12_change_40 (fun H locs hW hS => ?_)
          refine lv_goto (tgt := 47) hx hb dX12_change_43 (by decide) ?_
          exact tb_iretE h hx hb hr hS hW hlk dX12_change_47
    · have h := sh_t c3 h
      refine lv_iload_n hx hb dX12_change_12 rfl (lv_at hl 3 rfl) ?_
      refine lv_iconst (v := (1 : Int32)) hx hb dX12_change_13 (by decide) ?_
      refine lv_bipush (v := (99 : Int32)) hx hb dX12_change_14 (by decide) ?_
      refine tb_cSZ hZk hx hb hml hown hts hK hZ hW hS [.int x3, .int (1 : Int32), .int (99 : Int32)] (mX12_in (l := l) hZk x3 (1 : Int32) (99 : Int32) M0 (fX12_in x3 (1 : Int32) (99 : Int32)) rfl) pmX12_in tw1401 ⟨Nat.le_of_ble_eq_true rfl, Nat.le_of_ble_eq_true rfl⟩ rfl hl.1 (Nat.le_of_ble_eq_true rfl) ⟨Nat.le_refl _, Nat.le_refl _⟩ rfl dX12_change_16 (fun H locs hW hS hzz => ?_)
      refine lv_topi (fun b9 eb9 => ?_)
      have h := nm_a eb9 h
      have hzb9 : b9 = 0 ∨ b9 = 1 := by rw [eb9]; exact hzz
      refine lv_if_ne (tgt := 36) hx hb dX12_change_19 (by decide) (fun c10 => ?_) (fun c10 => ?_)
      · have h := sh_f c10 h
        refine lv_aload_n hx hb dX12_change_36 rfl (lv_at hl 0 rfl) ?_
        refine lv_iload_n hx hb dX12_change_37 rfl (lv_at hl 2 rfl) ?_
        refine lv_iload_n hx hb dX12_change_38 rfl (lv_at hl 1 rfl) ?_
        refine lv_iload_n hx hb dX12_change_39 rfl (lv_at hl 3 rfl) ?_
        obtain ⟨b11, M12, hcb11, h⟩ := bE_a h
        refine tb_cVI hZk hx hb hml hown hts hK hZ hW hS [.int x2, .int x1, .int x3] (mX12_changes (l := l) hZk x2 x1 x3 M0 b11 M12 hcb11) pmX12_changes tw1512 (Wd.recv hK hW (t := 12) (by decide) cz12 (C := RX12) (T := TX12) (N := 58) rfl) ⟨Nat.le_of_ble_eq_true rfl, Nat.le_of_ble_eq_true rfl⟩ rfl hl.1 (Nat.le_of_ble_eq_true rfl) ⟨Nat.le_refl _, Nat.le_refl _⟩ rfl dX12_change_40 (fun H locs hW hS => ?_)
        refine lv_goto (tgt := 47) hx hb dX12_change_43 (by decide) ?_
        exact tb_iretE h hx hb hr hS hW hlk dX12_change_47
      · have h := sh_t c10 h
        refine lv_iload_n hx hb dX12_change_22 rfl (lv_at hl 2 rfl) ?_
        refine lv_iconst (v := (1 : Int32)) hx hb dX12_change_23 (by decide) ?_
        refine lv_icmp_ne (tgt := 46) hx hb dX12_change_24 (by decide) (fun c13 => ?_) (fun c13 => ?_)
        · have h := sh_f c13 h
          refine lv_iconst (v := (-1 : Int32)) hx hb dX12_change_46 (by decide) ?_
          exact tb_iretE h hx hb hr hS hW hlk dX12_change_47
        · have h := sh_t c13 h
          refine lv_iload_n hx hb dX12_change_27 rfl (lv_at hl 3 rfl) ?_
          refine lv_iconst (v := (0 : Int32)) hx hb dX12_change_28 (by decide) ?_
          refine lv_iconst (v := (2 : Int32)) hx hb dX12_change_29 (by decide) ?_
          refine tb_cSZ hZk hx hb hml hown hts hK hZ hW hS [.int x3, .int (0 : Int32), .int (2 : Int32)] (mX12_in (l := l) hZk x3 (0 : Int32) (2 : Int32) M0 (fX12_in x3 (0 : Int32) (2 : Int32)) rfl) pmX12_in tw1401 ⟨Nat.le_of_ble_eq_true rfl, Nat.le_of_ble_eq_true rfl⟩ rfl hl.1 (Nat.le_of_ble_eq_true rfl) ⟨Nat.le_refl _, Nat.le_refl _⟩ rfl dX12_change_30 (fun H locs hW hS hzz => ?_)
          refine lv_topi (fun b14 eb14 => ?_)
          have h := nm_a eb14 h
          have hzb14 : b14 = 0 ∨ b14 = 1 := by rw [eb14]; exact hzz
          refine lv_if_eq (tgt := 46) hx hb dX12_change_33 (by decide) (fun c15 => ?_) (fun c15 => ?_)
          · have h := sh_t c15 h
            refine lv_iconst (v := (-1 : Int32)) hx hb dX12_change_46 (by decide) ?_
            exact tb_iretE h hx hb hr hS hW hlk dX12_change_47
          · have h := sh_f c15 h
            refine lv_aload_n hx hb dX12_change_36 rfl (lv_at hl 0 rfl) ?_
            refine lv_iload_n hx hb dX12_change_37 rfl (lv_at hl 2 rfl) ?_
            refine lv_iload_n hx hb dX12_change_38 rfl (lv_at hl 1 rfl) ?_
            refine lv_iload_n hx hb dX12_change_39 rfl (lv_at hl 3 rfl) ?_
            obtain ⟨b16, M17, hcb16, h⟩ := bE_a h
            refine tb_cVI hZk hx hb hml hown hts hK hZ hW hS [.int x2, .int x1, .int x3] (mX12_changes (l := l) hZk x2 x1 x3 M0 b16 M17 hcb16) pmX12_changes tw1512 (Wd.recv hK hW (t := 12) (by decide) cz12 (C := RX12) (T := TX12) (N := 58) rfl) ⟨Nat.le_of_ble_eq_true rfl, Nat.le_of_ble_eq_true rfl⟩ rfl hl.1 (Nat.le_of_ble_eq_true rfl) ⟨Nat.le_refl _, Nat.le_refl _⟩ rfl dX12_change_40 (fun H locs hW hS => ?_)
            refine lv_goto (tgt := 47) hx hb dX12_change_43 (by decide) ?_
            exact tb_iretE h hx hb hr hS hW hlk dX12_change_47
def fX12_take (x1 : Int32) (x2 : Int32) (x3 : Int32) (M0 : Mem) : Option (Int32 × Mem) :=
  nm (fX12_isStone x1 M0) fun b1 => if b1 = 0 then (some ((-1 : Int32), M0)) else (nm (fX12_in x2 (0 : Int32) (2 : Int32)) fun b3 => if b3 = 0 then (some ((-1 : Int32), M0)) else (if x2 = 0 then (nm (fX12_in x3 (1 : Int32) (9 : Int32)) fun b10 => if b10 = 0 then (some ((-1 : Int32), M0)) else (nm (mgI M0 1201 0 0) fun v12 => ix x1 64 <| nm (msI M0 5400 0 x1.toNatClampNeg v12) fun M13 => ix x1 64 <| nm (msI M13 5500 0 x1.toNatClampNeg x2) fun M14 => ix x1 64 <| nm (msI M14 5600 0 x1.toNatClampNeg x3) fun M15 => some (mgI M15 1201 0 0, M15))) else (nm (mgI M0 1201 0 0) fun v6 => ix x1 64 <| nm (msI M0 5400 0 x1.toNatClampNeg v6) fun M7 => ix x1 64 <| nm (msI M7 5500 0 x1.toNatClampNeg x2) fun M8 => ix x1 64 <| nm (msI M8 5600 0 x1.toNatClampNeg x3) fun M9 => some (mgI M9 1201 0 0, M9))))
set_option maxHeartbeats 4000000 in
set_option maxRecDepth 100000 in
theorem mX12_take {l : Launch} {D : va_G} {cy : Nat → ClassId} {A : Nat → Prop} {Z : State → Heap → Prop} {ad : Nat → Nat → Nat} (hZk : ZOK A Z) (x1 : Int32) (x2 : Int32) (x3 : Int32) (M0 : Mem) (r : Int32) (M' : Mem) (h : fX12_take x1 x2 x3 M0 = some (r, M')) : Met l yX12_take (wt yX12_take cX12_take 4 (some .int)) (rm 2 43) (CPre D cy A Z cnM ad M0 [.ref (ad 12 0), .int x1, .int x2, .int x3]) (QI D cy A cnM ad r M') 0 0 A := by
  refine tb_start [.ref (ad 12 0), .int x1, .int x2, .int x3] [(0, .ref (ad 12 0)), (1, .int x1), (2, .int x2), (3, .int x3)] RX12 rfl (by decide +kernel) (Nat.le_of_ble_eq_true rfl) rfl (fun p e s m args below meth c hx hb hr hml hown hts hlk hW hK hZ ls hl => ?_)
  have hS : va_S A s.heap s.heap [] := va_S.rf
  unfold fX12_take at h
  refine lv_aload_n hx hb dX12_take_0 rfl (lv_at hl 0 rfl) ?_
  refine lv_iload_n hx hb dX12_take_1 rfl (lv_at hl 1 rfl) ?_
  refine tb_cVZ hZk hx hb hml hown hts hK hZ hW hS [.int x1] (mX12_isStone (l := l) hZk x1 M0 (fX12_isStone x1 M0) rfl) pmX12_isStone tw1415 (Wd.recv hK hW (t := 12) (by decide) cz12 (C := RX12) (T := TX12) (N := 58) rfl) ⟨Nat.le_of_ble_eq_true rfl, Nat.le_of_ble_eq_true rfl⟩ rfl hl.1 (Nat.le_of_ble_eq_true rfl) ⟨Nat.le_refl _, Nat.le_refl _⟩ rfl dX12_take_2 (fun H locs hW hS hzz => ?_)
  refine lv_topi (fun b1 eb1 => ?_)
  have h := nm_a eb1 h
  have hzb1 : b1 = 0 ∨ b1 = 1 := by rw [eb1]; exact hzz
  refine lv_if_eq (tgt := 31) hx hb dX12_take_5 (by decide) (fun c2 => ?_) (fun c2 => ?_)
  · have h := sh_t c2 h
    refine lv_iconst (v := (-1 : Int32)) hx hb dX12_take_31 (by decide) ?_
    exact tb_iretE h hx hb hr hS hW hlk dX12_take_32
  · have h := sh_f c2 h
    refine lv_iload_n hx hb dX12_take_8 rfl (lv_at hl 2 rfl) ?_
    refine lv_iconst (v := (0 : Int32)) hx hb dX12_take_9 (by decide) ?_
    refine lv_iconst (v := (2 : Int32)) hx hb dX12_take_10 (by decide) ?_
    refine tb_cSZ hZk hx hb hml hown hts hK hZ hW hS [.int x2, .int (0 : Int32), .int (2 : Int32)] (mX12_in (l := l) hZk x2 (0 : Int32) (2 : Int32) M0 (fX12_in x2 (0 : Int32) (2 : Int32)) rfl) pmX12_in tw1401 ⟨Nat.le_of_ble_eq_true rfl, Nat.le_of_ble_eq_true rfl⟩ rfl hl.1 (Nat.le_of_ble_eq_true rfl) ⟨Nat.le_refl _, Nat.le_refl _⟩ rfl dX12_take_11 (fun H locs hW hS hzz => ?_)
    refine lv_topi (fun b3 eb3 => ?_)
    have h := nm_a eb3 h
    have hzb3 : b3 = 0 ∨ b3 = 1 := by rw [eb3]; exact hzz
    refine lv_if_eq (tgt := 31) hx hb dX12_take_14 (by decide) (fun c4 => ?_) (fun c4 => ?_)
    · have h := sh_t c4 h
      refine lv_iconst (v := (-1 : Int32)) hx hb dX12_take_31 (by decide) ?_
      exact tb_iretE h hx hb hr hS hW hlk dX12_take_32
    · have h := sh_f c4 h
      refine lv_iload_n hx hb dX12_take_17 rfl (lv_at hl 2 rfl) ?_
      refine lv_if_ne (tgt := 33) hx hb dX12_take_18 (by decide) (fun c5 => ?_) (fun c5 => ?_)
      · have h := sh_f c5 h
        refine lv_aload_n hx hb dX12_take_33 rfl (lv_at hl 0 rfl) ?_
        refine gtX12_22 hx hb hts hown hK hW cz12 dX12_take_34 ?_
        refine lv_iload_n hx hb dX12_take_37 rfl (lv_at hl 1 rfl) ?_
        refine lv_aload_n hx hb dX12_take_38 rfl (lv_at hl 0 rfl) ?_
        refine gtX12_160 hx hb hts hown hK hW cz12 dX12_take_39 ?_
        refine lv_topi (fun v6 ev6 => ?_)
        have h := nm_a ev6 h
        obtain ⟨hj, h⟩ := ix_a h
        refine as54 hx hb hK hW hS cz54 hj dX12_take_42 (fun H locs hW hS => ?_)
        obtain ⟨M7, eM7⟩ : ∃ y, y = msI M0 5400 0 x1.toNatClampNeg v6 := ⟨_, rfl⟩
        have h := nm_a eM7 h
        rw [← eM7] at hW
        refine lv_aload_n hx hb dX12_take_43 rfl (lv_at hl 0 rfl) ?_
        refine gtX12_25 hx hb hts hown hK hW cz12 dX12_take_44 ?_
        refine lv_iload_n hx hb dX12_take_47 rfl (lv_at hl 1 rfl) ?_
        refine lv_iload_n hx hb dX12_take_48 rfl (lv_at hl 2 rfl) ?_
        obtain ⟨hj, h⟩ := ix_a h
        refine as55 hx hb hK hW hS cz55 hj dX12_take_49 (fun H locs hW hS => ?_)
        obtain ⟨M8, eM8⟩ : ∃ y, y = msI M7 5500 0 x1.toNatClampNeg x2 := ⟨_, rfl⟩
        have h := nm_a eM8 h
        rw [← eM8] at hW
        refine lv_aload_n hx hb dX12_take_50 rfl (lv_at hl 0 rfl) ?_
        refine gtX12_28 hx hb hts hown hK hW cz12 dX12_take_51 ?_
        refine lv_iload_n hx hb dX12_take_54 rfl (lv_at hl 1 rfl) ?_
        refine lv_iload_n hx hb dX12_take_55 rfl (lv_at hl 3 rfl) ?_
        obtain ⟨hj, h⟩ := ix_a h
        refine as56 hx hb hK hW hS cz56 hj dX12_take_56 (fun H locs hW hS => ?_)
        obtain ⟨M9, eM9⟩ : ∃ y, y = msI M8 5600 0 x1.toNatClampNeg x3 := ⟨_, rfl⟩
        have h := nm_a eM9 h
        rw [← eM9] at hW
        refine lv_aload_n hx hb dX12_take_57 rfl (lv_at hl 0 rfl) ?_
        refine gtX12_160 hx hb hts hown hK hW cz12 dX12_take_58 ?_
        exact tb_iretE h hx hb hr hS hW hlk dX12_take_61
      · have h := sh_t c5 h
        refine lv_iload_n hx hb dX12_take_21 rfl (lv_at hl 3 rfl) ?_
        refine lv_iconst (v := (1 : Int32)) hx hb dX12_take_22 (by decide) ?_
        refine lv_bipush (v := (9 : Int32)) hx hb dX12_take_23 (by decide) ?_
        refine tb_cSZ hZk hx hb hml hown hts hK hZ hW hS [.int x3, .int (1 : Int32), .int (9 : Int32)] (mX12_in (l := l) hZk x3 (1 : Int32) (9 : Int32) M0 (fX12_in x3 (1 : Int32) (9 : Int32)) rfl) pmX12_in tw1401 ⟨Nat.le_of_ble_eq_true rfl, Nat.le_of_ble_eq_true rfl⟩ rfl hl.1 (Nat.le_of_ble_eq_true rfl) ⟨Nat.le_refl _, Nat.le_refl _⟩ rfl dX12_take_25 (fun H locs hW hS hzz => ?_)
        refine lv_topi (fun b10 eb10 => ?_)
        have h := nm_a eb10 h
        have hzb10 : b10 = 0 ∨ b10 = 1 := by rw [eb10]; exact hzz
        refine lv_if_ne (tgt := 33) hx hb dX12_take_28 (by decide) (fun c11 => ?_) (fun c11 => ?_)
        · have h := sh_f c11 h
          refine lv_aload_n hx hb dX12_take_33 rfl (lv_at hl 0 rfl) ?_
          refine gtX12_22 hx hb hts hown hK hW cz12 dX12_take_34 ?_
          refine lv_iload_n hx hb dX12_take_37 rfl (lv_at hl 1 rfl) ?_
          refine lv_aload_n hx hb dX12_take_38 rfl (lv_at hl 0 rfl) ?_
          refine gtX12_160 hx hb hts hown hK hW cz12 dX12_take_39 ?_
          refine lv_topi (fun v12 ev12 => ?_)
          have h := nm_a ev12 h
          obtain ⟨hj, h⟩ := ix_a h
          refine as54 hx hb hK hW hS cz54 hj dX12_take_42 (fun H locs hW hS => ?_)
          obtain ⟨M13, eM13⟩ : ∃ y, y = msI M0 5400 0 x1.toNatClampNeg v12 := ⟨_, rfl⟩
          have h := nm_a eM13 h
          rw [← eM13] at hW
          refine lv_aload_n hx hb dX12_take_43 rfl (lv_at hl 0 rfl) ?_
          refine gtX12_25 hx hb hts hown hK hW cz12 dX12_take_44 ?_
          refine lv_iload_n hx hb dX12_take_47 rfl (lv_at hl 1 rfl) ?_
          refine lv_iload_n hx hb dX12_take_48 rfl (lv_at hl 2 rfl) ?_
          obtain ⟨hj, h⟩ := ix_a h
          refine as55 hx hb hK hW hS cz55 hj dX12_take_49 (fun H locs hW hS => ?_)
          obtain ⟨M14, eM14⟩ : ∃ y, y = msI M13 5500 0 x1.toNatClampNeg x2 := ⟨_, rfl⟩
          have h := nm_a eM14 h
          rw [← eM14] at hW
          refine lv_aload_n hx hb dX12_take_50 rfl (lv_at hl 0 rfl) ?_
          refine gtX12_28 hx hb hts hown hK hW cz12 dX12_take_51 ?_
          refine lv_iload_n hx hb dX12_take_54 rfl (lv_at hl 1 rfl) ?_
          refine lv_iload_n hx hb dX12_take_55 rfl (lv_at hl 3 rfl) ?_
          obtain ⟨hj, h⟩ := ix_a h
          refine as56 hx hb hK hW hS cz56 hj dX12_take_56 (fun H locs hW hS => ?_)
          obtain ⟨M15, eM15⟩ : ∃ y, y = msI M14 5600 0 x1.toNatClampNeg x3 := ⟨_, rfl⟩
          have h := nm_a eM15 h
          rw [← eM15] at hW
          refine lv_aload_n hx hb dX12_take_57 rfl (lv_at hl 0 rfl) ?_
          refine gtX12_160 hx hb hts hown hK hW cz12 dX12_take_58 ?_
          exact tb_iretE h hx hb hr hS hW hlk dX12_take_61
        · have h := sh_t c11 h
          refine lv_iconst (v := (-1 : Int32)) hx hb dX12_take_31 (by decide) ?_
          exact tb_iretE h hx hb hr hS hW hlk dX12_take_32
def fX12_restore (x1 : Int32) (M0 : Mem) : Option (Int32 × Mem) :=
  nm (fX12_isStone x1 M0) fun b1 => if b1 = 0 then (some ((-1 : Int32), M0)) else (ix x1 64 <| nm (mgI M0 5400 0 x1.toNatClampNeg) fun v3 => ix x1 64 <| nm (msI M0 5400 0 x1.toNatClampNeg (-1 : Int32)) fun M4 => ix x1 64 <| nm (msI M4 5500 0 x1.toNatClampNeg (-1 : Int32)) fun M5 => if 0 ≤ v3 then (some (v3, M5)) else (some ((-2 : Int32), M5)))
set_option maxHeartbeats 4000000 in
set_option maxRecDepth 100000 in
theorem mX12_restore {l : Launch} {D : va_G} {cy : Nat → ClassId} {A : Nat → Prop} {Z : State → Heap → Prop} {ad : Nat → Nat → Nat} (hZk : ZOK A Z) (x1 : Int32) (M0 : Mem) (r : Int32) (M' : Mem) (h : fX12_restore x1 M0 = some (r, M')) : Met l yX12_restore (wt yX12_restore cX12_restore 3 (some .int)) (rm 2 43) (CPre D cy A Z cnM ad M0 [.ref (ad 12 0), .int x1]) (QI D cy A cnM ad r M') 0 0 A := by
  refine tb_start [.ref (ad 12 0), .int x1] [(0, .ref (ad 12 0)), (1, .int x1)] RX12 rfl (by decide +kernel) (Nat.le_of_ble_eq_true rfl) rfl (fun p e s m args below meth c hx hb hr hml hown hts hlk hW hK hZ ls hl => ?_)
  have hS : va_S A s.heap s.heap [] := va_S.rf
  unfold fX12_restore at h
  refine lv_aload_n hx hb dX12_restore_0 rfl (lv_at hl 0 rfl) ?_
  refine lv_iload_n hx hb dX12_restore_1 rfl (lv_at hl 1 rfl) ?_
  refine tb_cVZ hZk hx hb hml hown hts hK hZ hW hS [.int x1] (mX12_isStone (l := l) hZk x1 M0 (fX12_isStone x1 M0) rfl) pmX12_isStone tw1415 (Wd.recv hK hW (t := 12) (by decide) cz12 (C := RX12) (T := TX12) (N := 58) rfl) ⟨Nat.le_of_ble_eq_true rfl, Nat.le_of_ble_eq_true rfl⟩ rfl hl.1 (Nat.le_of_ble_eq_true rfl) ⟨Nat.le_refl _, Nat.le_refl _⟩ rfl dX12_restore_2 (fun H locs hW hS hzz => ?_)
  refine lv_topi (fun b1 eb1 => ?_)
  have h := nm_a eb1 h
  have hzb1 : b1 = 0 ∨ b1 = 1 := by rw [eb1]; exact hzz
  refine lv_if_ne (tgt := 10) hx hb dX12_restore_5 (by decide) (fun c2 => ?_) (fun c2 => ?_)
  · have h := sh_f c2 h
    refine lv_aload_n hx hb dX12_restore_10 rfl (lv_at hl 0 rfl) ?_
    refine gtX12_22 hx hb hts hown hK hW cz12 dX12_restore_11 ?_
    refine lv_iload_n hx hb dX12_restore_14 rfl (lv_at hl 1 rfl) ?_
    obtain ⟨hj, h⟩ := ix_a h
    refine al54 hx hb hK hW cz54 hj dX12_restore_15 ?_
    refine lv_topi (fun v3 ev3 => ?_)
    have h := nm_a ev3 h
    refine lv_istore_n (lv' := [(2, .int v3), (0, .ref (ad 12 0)), (1, .int x1)]) hx hb dX12_restore_16 rfl hl (by decide) rfl (fun ls hl => ?_)
    refine lv_aload_n hx hb dX12_restore_17 rfl (lv_at hl 1 rfl) ?_
    refine gtX12_22 hx hb hts hown hK hW cz12 dX12_restore_18 ?_
    refine lv_iload_n hx hb dX12_restore_21 rfl (lv_at hl 2 rfl) ?_
    refine lv_iconst (v := (-1 : Int32)) hx hb dX12_restore_22 (by decide) ?_
    obtain ⟨hj, h⟩ := ix_a h
    refine as54 hx hb hK hW hS cz54 hj dX12_restore_23 (fun H locs hW hS => ?_)
    obtain ⟨M4, eM4⟩ : ∃ y, y = msI M0 5400 0 x1.toNatClampNeg (-1 : Int32) := ⟨_, rfl⟩
    have h := nm_a eM4 h
    rw [← eM4] at hW
    refine lv_aload_n hx hb dX12_restore_24 rfl (lv_at hl 1 rfl) ?_
    refine gtX12_25 hx hb hts hown hK hW cz12 dX12_restore_25 ?_
    refine lv_iload_n hx hb dX12_restore_28 rfl (lv_at hl 2 rfl) ?_
    refine lv_iconst (v := (-1 : Int32)) hx hb dX12_restore_29 (by decide) ?_
    obtain ⟨hj, h⟩ := ix_a h
    refine as55 hx hb hK hW hS cz55 hj dX12_restore_30 (fun H locs hW hS => ?_)
    obtain ⟨M5, eM5⟩ : ∃ y, y = msI M4 5500 0 x1.toNatClampNeg (-1 : Int32) := ⟨_, rfl⟩
    have h := nm_a eM5 h
    rw [← eM5] at hW
    refine lv_iload_n hx hb dX12_restore_31 rfl (lv_at hl 0 rfl) ?_
    refine lv_if_ge (tgt := 40) hx hb dX12_restore_32 (by decide) (fun c6 => ?_) (fun c6 => ?_)
    · have h := sh_t c6 h
      refine lv_iload_n hx hb dX12_restore_40 rfl (lv_at hl 0 rfl) ?_
      exact tb_iretE h hx hb hr hS hW hlk dX12_restore_41
    · have h := sh_f c6 h
      refine lv_bipush (v := (-2 : Int32)) hx hb dX12_restore_35 (by decide) ?_
      refine lv_goto (tgt := 41) hx hb dX12_restore_37 (by decide) ?_
      exact tb_iretE h hx hb hr hS hW hlk dX12_restore_41
  · have h := sh_t c2 h
    refine lv_iconst (v := (-1 : Int32)) hx hb dX12_restore_8 (by decide) ?_
    exact tb_iretE h hx hb hr hS hW hlk dX12_restore_9
def fX12_with (x1 : Int32) (x2 : Int32) (x3 : Int32) (M0 : Mem) : Option (Int32 × Mem) :=
  nm (fX12_isStone x1 M0) fun b1 => if b1 = 0 then (some ((-2000000000 : Int32), M0)) else (nm (fX12_isStone x2 M0) fun b3 => if b3 = 0 then (some ((-2000000000 : Int32), M0)) else (nm (fX12_in x3 (0 : Int32) (3 : Int32)) fun b5 => if b5 = 0 then (some ((-2000000000 : Int32), M0)) else (if (2 : Int32) ≤ x3 then (if (2 : Int32) ≤ x3 then (bE (fX12_findCounts (0 : Int64) ((1 : Int64) <<< (x1.toInt64 &&& 63)) M0) fun u9 M10 => if (x3 - x3 / (2 : Int32) * (2 : Int32)) = 0 then (ix x2 64 <| some (mgI M10 6700 0 x2.toNatClampNeg, M10)) else (ix x2 64 <| if (mgI M10 6900 0 x2.toNatClampNeg) = 0 then (some ((-2000000000 : Int32), M10)) else (ix x2 64 <| some (mgI M10 6800 0 x2.toNatClampNeg, M10)))) else (bE (fX12_findCounts (0 : Int64) (0 : Int64) M0) fun u13 M14 => if (x3 - x3 / (2 : Int32) * (2 : Int32)) = 0 then (ix x2 64 <| some (mgI M14 6700 0 x2.toNatClampNeg, M14)) else (ix x2 64 <| if (mgI M14 6900 0 x2.toNatClampNeg) = 0 then (some ((-2000000000 : Int32), M14)) else (ix x2 64 <| some (mgI M14 6800 0 x2.toNatClampNeg, M14))))) else (if (2 : Int32) ≤ x3 then (bE (fX12_findCounts ((1 : Int64) <<< (x1.toInt64 &&& 63)) ((1 : Int64) <<< (x1.toInt64 &&& 63)) M0) fun u18 M19 => if (x3 - x3 / (2 : Int32) * (2 : Int32)) = 0 then (ix x2 64 <| some (mgI M19 6700 0 x2.toNatClampNeg, M19)) else (ix x2 64 <| if (mgI M19 6900 0 x2.toNatClampNeg) = 0 then (some ((-2000000000 : Int32), M19)) else (ix x2 64 <| some (mgI M19 6800 0 x2.toNatClampNeg, M19)))) else (bE (fX12_findCounts ((1 : Int64) <<< (x1.toInt64 &&& 63)) (0 : Int64) M0) fun u22 M23 => if (x3 - x3 / (2 : Int32) * (2 : Int32)) = 0 then (ix x2 64 <| some (mgI M23 6700 0 x2.toNatClampNeg, M23)) else (ix x2 64 <| if (mgI M23 6900 0 x2.toNatClampNeg) = 0 then (some ((-2000000000 : Int32), M23)) else (ix x2 64 <| some (mgI M23 6800 0 x2.toNatClampNeg, M23))))))))
set_option maxHeartbeats 4000000 in
set_option maxRecDepth 100000 in
theorem mX12_with {l : Launch} {D : va_G} {cy : Nat → ClassId} {A : Nat → Prop} {Z : State → Heap → Prop} {ad : Nat → Nat → Nat} (hZk : ZOK A Z) (x1 : Int32) (x2 : Int32) (x3 : Int32) (M0 : Mem) (r : Int32) (M' : Mem) (h : fX12_with x1 x2 x3 M0 = some (r, M')) : Met l yX12_with (wt yX12_with cX12_with 4 (some .int)) (rm 3 80) (CPre D cy A Z cnM ad M0 [.ref (ad 12 0), .int x1, .int x2, .int x3]) (QI D cy A cnM ad r M') 0 0 A := by
  refine tb_start [.ref (ad 12 0), .int x1, .int x2, .int x3] [(0, .ref (ad 12 0)), (1, .int x1), (2, .int x2), (3, .int x3)] RX12 rfl (by decide +kernel) (Nat.le_of_ble_eq_true rfl) rfl (fun p e s m args below meth c hx hb hr hml hown hts hlk hW hK hZ ls hl => ?_)
  have hS : va_S A s.heap s.heap [] := va_S.rf
  unfold fX12_with at h
  refine lv_aload_n hx hb dX12_with_0 rfl (lv_at hl 0 rfl) ?_
  refine lv_iload_n hx hb dX12_with_1 rfl (lv_at hl 1 rfl) ?_
  refine tb_cVZ hZk hx hb hml hown hts hK hZ hW hS [.int x1] (mX12_isStone (l := l) hZk x1 M0 (fX12_isStone x1 M0) rfl) pmX12_isStone tw1415 (Wd.recv hK hW (t := 12) (by decide) cz12 (C := RX12) (T := TX12) (N := 58) rfl) ⟨Nat.le_of_ble_eq_true rfl, Nat.le_of_ble_eq_true rfl⟩ rfl hl.1 (Nat.le_of_ble_eq_true rfl) ⟨Nat.le_refl _, Nat.le_refl _⟩ rfl dX12_with_2 (fun H locs hW hS hzz => ?_)
  refine lv_topi (fun b1 eb1 => ?_)
  have h := nm_a eb1 h
  have hzb1 : b1 = 0 ∨ b1 = 1 := by rw [eb1]; exact hzz
  refine lv_if_eq (tgt := 25) hx hb dX12_with_5 (by decide) (fun c2 => ?_) (fun c2 => ?_)
  · have h := sh_t c2 h
    refine lv_ldc hx hb hown (hts _ tw1479) dX12_with_25 ?_
    exact tb_iretE h hx hb hr hS hW hlk dX12_with_27
  · have h := sh_f c2 h
    refine lv_aload_n hx hb dX12_with_8 rfl (lv_at hl 0 rfl) ?_
    refine lv_iload_n hx hb dX12_with_9 rfl (lv_at hl 2 rfl) ?_
    refine tb_cVZ hZk hx hb hml hown hts hK hZ hW hS [.int x2] (mX12_isStone (l := l) hZk x2 M0 (fX12_isStone x2 M0) rfl) pmX12_isStone tw1415 (Wd.recv hK hW (t := 12) (by decide) cz12 (C := RX12) (T := TX12) (N := 58) rfl) ⟨Nat.le_of_ble_eq_true rfl, Nat.le_of_ble_eq_true rfl⟩ rfl hl.1 (Nat.le_of_ble_eq_true rfl) ⟨Nat.le_refl _, Nat.le_refl _⟩ rfl dX12_with_10 (fun H locs hW hS hzz => ?_)
    refine lv_topi (fun b3 eb3 => ?_)
    have h := nm_a eb3 h
    have hzb3 : b3 = 0 ∨ b3 = 1 := by rw [eb3]; exact hzz
    refine lv_if_eq (tgt := 25) hx hb dX12_with_13 (by decide) (fun c4 => ?_) (fun c4 => ?_)
    · have h := sh_t c4 h
      refine lv_ldc hx hb hown (hts _ tw1479) dX12_with_25 ?_
      exact tb_iretE h hx hb hr hS hW hlk dX12_with_27
    · have h := sh_f c4 h
      refine lv_iload_n hx hb dX12_with_16 rfl (lv_at hl 3 rfl) ?_
      refine lv_iconst (v := (0 : Int32)) hx hb dX12_with_17 (by decide) ?_
      refine lv_iconst (v := (3 : Int32)) hx hb dX12_with_18 (by decide) ?_
      refine tb_cSZ hZk hx hb hml hown hts hK hZ hW hS [.int x3, .int (0 : Int32), .int (3 : Int32)] (mX12_in (l := l) hZk x3 (0 : Int32) (3 : Int32) M0 (fX12_in x3 (0 : Int32) (3 : Int32)) rfl) pmX12_in tw1401 ⟨Nat.le_of_ble_eq_true rfl, Nat.le_of_ble_eq_true rfl⟩ rfl hl.1 (Nat.le_of_ble_eq_true rfl) ⟨Nat.le_refl _, Nat.le_refl _⟩ rfl dX12_with_19 (fun H locs hW hS hzz => ?_)
      refine lv_topi (fun b5 eb5 => ?_)
      have h := nm_a eb5 h
      have hzb5 : b5 = 0 ∨ b5 = 1 := by rw [eb5]; exact hzz
      refine lv_if_ne (tgt := 28) hx hb dX12_with_22 (by decide) (fun c6 => ?_) (fun c6 => ?_)
      · have h := sh_f c6 h
        refine lv_aload_n hx hb dX12_with_28 rfl (lv_at hl 0 rfl) ?_
        refine lv_iload_n hx hb dX12_with_29 rfl (lv_at hl 3 rfl) ?_
        refine lv_iconst (v := (2 : Int32)) hx hb dX12_with_30 (by decide) ?_
        refine lv_icmp_ge (tgt := 40) hx hb dX12_with_31 (by decide) (fun c7 => ?_) (fun c7 => ?_)
        · have h := sh_t c7 h
          refine lv_lconst (v := (0 : Int64)) hx hb dX12_with_40 (by decide) ?_
          refine lv_iload_n hx hb dX12_with_41 rfl (lv_at hl 3 rfl) ?_
          refine lv_iconst (v := (2 : Int32)) hx hb dX12_with_42 (by decide) ?_
          refine lv_icmp_ge (tgt := 50) hx hb dX12_with_43 (by decide) (fun c8 => ?_) (fun c8 => ?_)
          · have h := sh_t c8 h
            refine lv_lconst (v := (1 : Int64)) hx hb dX12_with_50 (by decide) ?_
            refine lv_iload_n hx hb dX12_with_51 rfl (lv_at hl 1 rfl) ?_
            refine lv_lshl hx hb dX12_with_52 rfl ?_
            obtain ⟨u9, M10, hcu9, h⟩ := bE_a h
            refine tb_cVV hZk hx hb hml hown hts hK hZ hW hS [.long (0 : Int64), .long ((1 : Int64) <<< (x1.toInt64 &&& 63))] (mX12_findCounts (l := l) hZk (0 : Int64) ((1 : Int64) <<< (x1.toInt64 &&& 63)) M0 u9 M10 hcu9) pmX12_findCounts tw1455 (Wd.recv hK hW (t := 12) (by decide) cz12 (C := RX12) (T := TX12) (N := 58) rfl) ⟨Nat.le_of_ble_eq_true rfl, Nat.le_of_ble_eq_true rfl⟩ rfl hl.1 (Nat.le_of_ble_eq_true rfl) ⟨Nat.le_refl _, Nat.le_refl _⟩ rfl dX12_with_53 (fun H locs hW hS => ?_)
            refine lv_iload_n hx hb dX12_with_56 rfl (lv_at hl 3 rfl) ?_
            refine lv_iconst (v := (2 : Int32)) hx hb dX12_with_57 (by decide) ?_
            refine lv_irem hx hb dX12_with_58 (by decide) ?_
            refine lv_if_ne (tgt := 71) hx hb dX12_with_59 (by decide) (fun c11 => ?_) (fun c11 => ?_)
            · have h := sh_f c11 h
              refine lv_aload_n hx hb dX12_with_71 rfl (lv_at hl 0 rfl) ?_
              refine gtX12_69 hx hb hts hown hK hW cz12 dX12_with_72 ?_
              refine lv_iload_n hx hb dX12_with_75 rfl (lv_at hl 2 rfl) ?_
              obtain ⟨hj, h⟩ := ix_a h
              refine al69 hx hb hK hW cz69 hj dX12_with_76 ?_
              refine lv_if_eq (tgt := 89) hx hb dX12_with_77 (by decide) (fun c12 => ?_) (fun c12 => ?_)
              · have h := sh_t c12 h
                refine lv_ldc hx hb hown (hts _ tw1479) dX12_with_89 ?_
                exact tb_iretE h hx hb hr hS hW hlk dX12_with_91
              · have h := sh_f c12 h
                refine lv_aload_n hx hb dX12_with_80 rfl (lv_at hl 0 rfl) ?_
                refine gtX12_66 hx hb hts hown hK hW cz12 dX12_with_81 ?_
                refine lv_iload_n hx hb dX12_with_84 rfl (lv_at hl 2 rfl) ?_
                obtain ⟨hj, h⟩ := ix_a h
                refine al68 hx hb hK hW cz68 hj dX12_with_85 ?_
                refine lv_goto (tgt := 91) hx hb dX12_with_86 (by decide) ?_
                exact tb_iretE h hx hb hr hS hW hlk dX12_with_91
            · have h := sh_t c11 h
              refine lv_aload_n hx hb dX12_with_62 rfl (lv_at hl 0 rfl) ?_
              refine gtX12_63 hx hb hts hown hK hW cz12 dX12_with_63 ?_
              refine lv_iload_n hx hb dX12_with_66 rfl (lv_at hl 2 rfl) ?_
              obtain ⟨hj, h⟩ := ix_a h
              refine al67 hx hb hK hW cz67 hj dX12_with_67 ?_
              refine lv_goto (tgt := 91) hx hb dX12_with_68 (by decide) ?_
              exact tb_iretE h hx hb hr hS hW hlk dX12_with_91
          · have h := sh_f c8 h
            refine lv_lconst (v := (0 : Int64)) hx hb dX12_with_46 (by decide) ?_
            refine lv_goto (tgt := 53) hx hb dX12_with_47 (by decide) ?_
            obtain ⟨u13, M14, hcu13, h⟩ := bE_a h
            refine tb_cVV hZk hx hb hml hown hts hK hZ hW hS [.long (0 : Int64), .long (0 : Int64)] (mX12_findCounts (l := l) hZk (0 : Int64) (0 : Int64) M0 u13 M14 hcu13) pmX12_findCounts tw1455 (Wd.recv hK hW (t := 12) (by decide) cz12 (C := RX12) (T := TX12) (N := 58) rfl) ⟨Nat.le_of_ble_eq_true rfl, Nat.le_of_ble_eq_true rfl⟩ rfl hl.1 (Nat.le_of_ble_eq_true rfl) ⟨Nat.le_refl _, Nat.le_refl _⟩ rfl dX12_with_53 (fun H locs hW hS => ?_)
            refine lv_iload_n hx hb dX12_with_56 rfl (lv_at hl 3 rfl) ?_
            refine lv_iconst (v := (2 : Int32)) hx hb dX12_with_57 (by decide) ?_
            refine lv_irem hx hb dX12_with_58 (by decide) ?_
            refine lv_if_ne (tgt := 71) hx hb dX12_with_59 (by decide) (fun c15 => ?_) (fun c15 => ?_)
            · have h := sh_f c15 h
              refine lv_aload_n hx hb dX12_with_71 rfl (lv_at hl 0 rfl) ?_
              refine gtX12_69 hx hb hts hown hK hW cz12 dX12_with_72 ?_
              refine lv_iload_n hx hb dX12_with_75 rfl (lv_at hl 2 rfl) ?_
              obtain ⟨hj, h⟩ := ix_a h
              refine al69 hx hb hK hW cz69 hj dX12_with_76 ?_
              refine lv_if_eq (tgt := 89) hx hb dX12_with_77 (by decide) (fun c16 => ?_) (fun c16 => ?_)
              · have h := sh_t c16 h
                refine lv_ldc hx hb hown (hts _ tw1479) dX12_with_89 ?_
                exact tb_iretE h hx hb hr hS hW hlk dX12_with_91
              · have h := sh_f c16 h
                refine lv_aload_n hx hb dX12_with_80 rfl (lv_at hl 0 rfl) ?_
                refine gtX12_66 hx hb hts hown hK hW cz12 dX12_with_81 ?_
                refine lv_iload_n hx hb dX12_with_84 rfl (lv_at hl 2 rfl) ?_
                obtain ⟨hj, h⟩ := ix_a h
                refine al68 hx hb hK hW cz68 hj dX12_with_85 ?_
                refine lv_goto (tgt := 91) hx hb dX12_with_86 (by decide) ?_
                exact tb_iretE h hx hb hr hS hW hlk dX12_with_91
            · have h := sh_t c15 h
              refine lv_aload_n hx hb dX12_with_62 rfl (lv_at hl 0 rfl) ?_
              refine gtX12_63 hx hb hts hown hK hW cz12 dX12_with_63 ?_
              refine lv_iload_n hx hb dX12_with_66 rfl (lv_at hl 2 rfl) ?_
              obtain ⟨hj, h⟩ := ix_a h
              refine al67 hx hb hK hW cz67 hj dX12_with_67 ?_
              refine lv_goto (tgt := 91) hx hb dX12_with_68 (by decide) ?_
              exact tb_iretE h hx hb hr hS hW hlk dX12_with_91
        · have h := sh_f c7 h
          refine lv_lconst (v := (1 : Int64)) hx hb dX12_with_34 (by decide) ?_
          refine lv_iload_n hx hb dX12_with_35 rfl (lv_at hl 1 rfl) ?_
          refine lv_lshl hx hb dX12_with_36 rfl ?_
          refine lv_goto (tgt := 41) hx hb dX12_with_37 (by decide) ?_
          refine lv_iload_n hx hb dX12_with_41 rfl (lv_at hl 3 rfl) ?_
          refine lv_iconst (v := (2 : Int32)) hx hb dX12_with_42 (by decide) ?_
          refine lv_icmp_ge (tgt := 50) hx hb dX12_with_43 (by decide) (fun c17 => ?_) (fun c17 => ?_)
          · have h := sh_t c17 h
            refine lv_lconst (v := (1 : Int64)) hx hb dX12_with_50 (by decide) ?_
            refine lv_iload_n hx hb dX12_with_51 rfl (lv_at hl 1 rfl) ?_
            refine lv_lshl hx hb dX12_with_52 rfl ?_
            obtain ⟨u18, M19, hcu18, h⟩ := bE_a h
            refine tb_cVV hZk hx hb hml hown hts hK hZ hW hS [.long ((1 : Int64) <<< (x1.toInt64 &&& 63)), .long ((1 : Int64) <<< (x1.toInt64 &&& 63))] (mX12_findCounts (l := l) hZk ((1 : Int64) <<< (x1.toInt64 &&& 63)) ((1 : Int64) <<< (x1.toInt64 &&& 63)) M0 u18 M19 hcu18) pmX12_findCounts tw1455 (Wd.recv hK hW (t := 12) (by decide) cz12 (C := RX12) (T := TX12) (N := 58) rfl) ⟨Nat.le_of_ble_eq_true rfl, Nat.le_of_ble_eq_true rfl⟩ rfl hl.1 (Nat.le_of_ble_eq_true rfl) ⟨Nat.le_refl _, Nat.le_refl _⟩ rfl dX12_with_53 (fun H locs hW hS => ?_)
            refine lv_iload_n hx hb dX12_with_56 rfl (lv_at hl 3 rfl) ?_
            refine lv_iconst (v := (2 : Int32)) hx hb dX12_with_57 (by decide) ?_
            refine lv_irem hx hb dX12_with_58 (by decide) ?_
            refine lv_if_ne (tgt := 71) hx hb dX12_with_59 (by decide) (fun c20 => ?_) (fun c20 => ?_)
            · have h := sh_f c20 h
              refine lv_aload_n hx hb dX12_with_71 rfl (lv_at hl 0 rfl) ?_
              refine gtX12_69 hx hb hts hown hK hW cz12 dX12_with_72 ?_
              refine lv_iload_n hx hb dX12_with_75 rfl (lv_at hl 2 rfl) ?_
              obtain ⟨hj, h⟩ := ix_a h
              refine al69 hx hb hK hW cz69 hj dX12_with_76 ?_
              refine lv_if_eq (tgt := 89) hx hb dX12_with_77 (by decide) (fun c21 => ?_) (fun c21 => ?_)
              · have h := sh_t c21 h
                refine lv_ldc hx hb hown (hts _ tw1479) dX12_with_89 ?_
                exact tb_iretE h hx hb hr hS hW hlk dX12_with_91
              · have h := sh_f c21 h
                refine lv_aload_n hx hb dX12_with_80 rfl (lv_at hl 0 rfl) ?_
                refine gtX12_66 hx hb hts hown hK hW cz12 dX12_with_81 ?_
                refine lv_iload_n hx hb dX12_with_84 rfl (lv_at hl 2 rfl) ?_
                obtain ⟨hj, h⟩ := ix_a h
                refine al68 hx hb hK hW cz68 hj dX12_with_85 ?_
                refine lv_goto (tgt := 91) hx hb dX12_with_86 (by decide) ?_
                exact tb_iretE h hx hb hr hS hW hlk dX12_with_91
            · have h := sh_t c20 h
              refine lv_aload_n hx hb dX12_with_62 rfl (lv_at hl 0 rfl) ?_
              refine gtX12_63 hx hb hts hown hK hW cz12 dX12_with_63 ?_
              refine lv_iload_n hx hb dX12_with_66 rfl (lv_at hl 2 rfl) ?_
              obtain ⟨hj, h⟩ := ix_a h
              refine al67 hx hb hK hW cz67 hj dX12_with_67 ?_
              refine lv_goto (tgt := 91) hx hb dX12_with_68 (by decide) ?_
              exact tb_iretE h hx hb hr hS hW hlk dX12_with_91
          · have h := sh_f c17 h
            refine lv_lconst (v := (0 : Int64)) hx hb dX12_with_46 (by decide) ?_
            refine lv_goto (tgt := 53) hx hb dX12_with_47 (by decide) ?_
            obtain ⟨u22, M23, hcu22, h⟩ := bE_a h
            refine tb_cVV hZk hx hb hml hown hts hK hZ hW hS [.long ((1 : Int64) <<< (x1.toInt64 &&& 63)), .long (0 : Int64)] (mX12_findCounts (l := l) hZk ((1 : Int64) <<< (x1.toInt64 &&& 63)) (0 : Int64) M0 u22 M23 hcu22) pmX12_findCounts tw1455 (Wd.recv hK hW (t := 12) (by decide) cz12 (C := RX12) (T := TX12) (N := 58) rfl) ⟨Nat.le_of_ble_eq_true rfl, Nat.le_of_ble_eq_true rfl⟩ rfl hl.1 (Nat.le_of_ble_eq_true rfl) ⟨Nat.le_refl _, Nat.le_refl _⟩ rfl dX12_with_53 (fun H locs hW hS => ?_)
            refine lv_iload_n hx hb dX12_with_56 rfl (lv_at hl 3 rfl) ?_
            refine lv_iconst (v := (2 : Int32)) hx hb dX12_with_57 (by decide) ?_
            refine lv_irem hx hb dX12_with_58 (by decide) ?_
            refine lv_if_ne (tgt := 71) hx hb dX12_with_59 (by decide) (fun c24 => ?_) (fun c24 => ?_)
            · have h := sh_f c24 h
              refine lv_aload_n hx hb dX12_with_71 rfl (lv_at hl 0 rfl) ?_
              refine gtX12_69 hx hb hts hown hK hW cz12 dX12_with_72 ?_
              refine lv_iload_n hx hb dX12_with_75 rfl (lv_at hl 2 rfl) ?_
              obtain ⟨hj, h⟩ := ix_a h
              refine al69 hx hb hK hW cz69 hj dX12_with_76 ?_
              refine lv_if_eq (tgt := 89) hx hb dX12_with_77 (by decide) (fun c25 => ?_) (fun c25 => ?_)
              · have h := sh_t c25 h
                refine lv_ldc hx hb hown (hts _ tw1479) dX12_with_89 ?_
                exact tb_iretE h hx hb hr hS hW hlk dX12_with_91
              · have h := sh_f c25 h
                refine lv_aload_n hx hb dX12_with_80 rfl (lv_at hl 0 rfl) ?_
                refine gtX12_66 hx hb hts hown hK hW cz12 dX12_with_81 ?_
                refine lv_iload_n hx hb dX12_with_84 rfl (lv_at hl 2 rfl) ?_
                obtain ⟨hj, h⟩ := ix_a h
                refine al68 hx hb hK hW cz68 hj dX12_with_85 ?_
                refine lv_goto (tgt := 91) hx hb dX12_with_86 (by decide) ?_
                exact tb_iretE h hx hb hr hS hW hlk dX12_with_91
            · have h := sh_t c24 h
              refine lv_aload_n hx hb dX12_with_62 rfl (lv_at hl 0 rfl) ?_
              refine gtX12_63 hx hb hts hown hK hW cz12 dX12_with_63 ?_
              refine lv_iload_n hx hb dX12_with_66 rfl (lv_at hl 2 rfl) ?_
              obtain ⟨hj, h⟩ := ix_a h
              refine al67 hx hb hK hW cz67 hj dX12_with_67 ?_
              refine lv_goto (tgt := 91) hx hb dX12_with_68 (by decide) ?_
              exact tb_iretE h hx hb hr hS hW hlk dX12_with_91
      · have h := sh_t c6 h
        refine lv_ldc hx hb hown (hts _ tw1479) dX12_with_25 ?_
        exact tb_iretE h hx hb hr hS hW hlk dX12_with_27
def fX12_falls_b70 (M11 : Mem) (x2 : Int32) (k12 : Int32 → Int32 → Option (Int32 × Mem)) (i13 : Int32) (i14 : Int32) : Option (Int32 × Mem) :=
  if (mgI M11 1202 0 0) ≤ i14 then (if 0 ≤ x2 then (some ((-1 : Int32), M11)) else (some (i13, M11))) else (ix i14 64 <| if (mgI M11 7400 0 i14.toNatClampNeg) = 0 then (nm (i14 + (1 : Int32)) fun v18 => k12 i13 v18) else (ix i14 64 <| if (mgI M11 6700 0 i14.toNatClampNeg) ≤ 0 then (if i13 = x2 then (some (i14, M11)) else (nm (i13 + (1 : Int32)) fun v21 => nm (i14 + (1 : Int32)) fun v22 => k12 v21 v22)) else (nm (i14 + (1 : Int32)) fun v23 => k12 i13 v23)))
def fX12_falls_l70 (M11 : Mem) (x2 : Int32) : Nat → Int32 → Int32 → Option (Int32 × Mem)
  | 0, _, _ => none
  | n + 1, i13, i14 => fX12_falls_b70 M11 x2 (fX12_falls_l70 M11 x2 n) i13 i14
def fX12_falls_b23 (x1 : Int32) (x2 : Int32) (k6 : Int32 → Mem → Option (Int32 × Mem)) (i7 : Int32) (M8 : Mem) : Option (Int32 × Mem) :=
  if (mgI M8 1202 0 0) ≤ i7 then (bE (fX12_findCounts ((1 : Int64) <<< (x1.toInt64 &&& 63)) (0 : Int64) M8) fun u10 M11 => fX12_falls_l70 M11 x2 FU (0 : Int32) (0 : Int32)) else (ix i7 64 <| if (mgI M8 6700 0 i7.toNatClampNeg) ≤ 0 then (ix i7 64 <| nm (msI M8 7400 0 i7.toNatClampNeg (vp_nar .boolean (0 : Int32))) fun M25 => nm (i7 + (1 : Int32)) fun v26 => k6 v26 M25) else (ix i7 64 <| nm (msI M8 7400 0 i7.toNatClampNeg (vp_nar .boolean (1 : Int32))) fun M27 => nm (i7 + (1 : Int32)) fun v28 => k6 v28 M27))
def fX12_falls_l23 (x1 : Int32) (x2 : Int32) : Nat → Int32 → Mem → Option (Int32 × Mem)
  | 0, _, _ => none
  | n + 1, i7, M8 => fX12_falls_b23 x1 x2 (fX12_falls_l23 x1 x2 n) i7 M8
def fX12_falls (x1 : Int32) (x2 : Int32) (M0 : Mem) : Option (Int32 × Mem) :=
  nm (fX12_isStone x1 M0) fun b1 => if b1 = 0 then (some ((-1 : Int32), M0)) else (if (-1 : Int32) ≤ x2 then (bE (fX12_findCounts (0 : Int64) (0 : Int64) M0) fun u4 M5 => fX12_falls_l23 x1 x2 FU (0 : Int32) M5) else (some ((-1 : Int32), M0)))
set_option maxHeartbeats 4000000 in
set_option maxRecDepth 100000 in
theorem mX12_falls {l : Launch} {D : va_G} {cy : Nat → ClassId} {A : Nat → Prop} {Z : State → Heap → Prop} {ad : Nat → Nat → Nat} (hZk : ZOK A Z) (x1 : Int32) (x2 : Int32) (M0 : Mem) (r : Int32) (M' : Mem) (h : fX12_falls x1 x2 M0 = some (r, M')) : Met l yX12_falls (wt yX12_falls cX12_falls 5 (some .int)) (rm 3 80) (CPre D cy A Z cnM ad M0 [.ref (ad 12 0), .int x1, .int x2]) (QI D cy A cnM ad r M') 0 0 A := by
  refine tb_start [.ref (ad 12 0), .int x1, .int x2] [(0, .ref (ad 12 0)), (1, .int x1), (2, .int x2)] RX12 rfl (by decide +kernel) (Nat.le_of_ble_eq_true rfl) rfl (fun p e s m args below meth c hx hb hr hml hown hts hlk hW hK hZ ls hl => ?_)
  have hS : va_S A s.heap s.heap [] := va_S.rf
  unfold fX12_falls at h
  refine lv_aload_n hx hb dX12_falls_0 rfl (lv_at hl 0 rfl) ?_
  refine lv_iload_n hx hb dX12_falls_1 rfl (lv_at hl 1 rfl) ?_
  refine tb_cVZ hZk hx hb hml hown hts hK hZ hW hS [.int x1] (mX12_isStone (l := l) hZk x1 M0 (fX12_isStone x1 M0) rfl) pmX12_isStone tw1415 (Wd.recv hK hW (t := 12) (by decide) cz12 (C := RX12) (T := TX12) (N := 58) rfl) ⟨Nat.le_of_ble_eq_true rfl, Nat.le_of_ble_eq_true rfl⟩ rfl hl.1 (Nat.le_of_ble_eq_true rfl) ⟨Nat.le_refl _, Nat.le_refl _⟩ rfl dX12_falls_2 (fun H locs hW hS hzz => ?_)
  refine lv_topi (fun b1 eb1 => ?_)
  have h := nm_a eb1 h
  have hzb1 : b1 = 0 ∨ b1 = 1 := by rw [eb1]; exact hzz
  refine lv_if_eq (tgt := 13) hx hb dX12_falls_5 (by decide) (fun c2 => ?_) (fun c2 => ?_)
  · have h := sh_t c2 h
    refine lv_iconst (v := (-1 : Int32)) hx hb dX12_falls_13 (by decide) ?_
    exact tb_iretE h hx hb hr hS hW hlk dX12_falls_14
  · have h := sh_f c2 h
    refine lv_iload_n hx hb dX12_falls_8 rfl (lv_at hl 2 rfl) ?_
    refine lv_iconst (v := (-1 : Int32)) hx hb dX12_falls_9 (by decide) ?_
    refine lv_icmp_ge (tgt := 15) hx hb dX12_falls_10 (by decide) (fun c3 => ?_) (fun c3 => ?_)
    · have h := sh_t c3 h
      refine lv_aload_n hx hb dX12_falls_15 rfl (lv_at hl 0 rfl) ?_
      refine lv_lconst (v := (0 : Int64)) hx hb dX12_falls_16 (by decide) ?_
      refine lv_lconst (v := (0 : Int64)) hx hb dX12_falls_17 (by decide) ?_
      obtain ⟨u4, M5, hcu4, h⟩ := bE_a h
      refine tb_cVV hZk hx hb hml hown hts hK hZ hW hS [.long (0 : Int64), .long (0 : Int64)] (mX12_findCounts (l := l) hZk (0 : Int64) (0 : Int64) M0 u4 M5 hcu4) pmX12_findCounts tw1455 (Wd.recv hK hW (t := 12) (by decide) cz12 (C := RX12) (T := TX12) (N := 58) rfl) ⟨Nat.le_of_ble_eq_true rfl, Nat.le_of_ble_eq_true rfl⟩ rfl hl.1 (Nat.le_of_ble_eq_true rfl) ⟨Nat.le_refl _, Nat.le_refl _⟩ rfl dX12_falls_18 (fun H locs hW hS => ?_)
      refine lv_iconst (v := (0 : Int32)) hx hb dX12_falls_21 (by decide) ?_
      refine lv_istore_n (lv' := [(3, .int (0 : Int32)), (0, .ref (ad 12 0)), (1, .int x1), (2, .int x2)]) hx hb dX12_falls_22 rfl hl (by decide) rfl (fun ls hl => ?_)
      have L6 : ∀ (n6 : Nat) (i7 : Int32) (M8 : Mem) (H : Heap) (locs : List Loc) (ls : Array Slot), Wd D cy A cnM ad M8 H → va_S A s.heap H locs → lv_has ls 5 [(0, .ref (ad 12 0)), (1, .int x1), (2, .int x2), (3, .int i7)] → fX12_falls_l23 x1 x2 n6 i7 M8 = some (r, M') → W p l e (rm 3 80) s m args below meth c H locs 0 0 (MQ below (QI D cy A cnM ad r M') args s 0 0 A) (F0 m 23 ls []) := by
        intro n6
        induction n6 with
        | zero => intro i7 M8 H locs ls hW hS hl h; cases h
        | succ n6 ih6 =>
          intro i7 M8 H locs ls hW hS hl h
          unfold fX12_falls_l23 fX12_falls_b23 at h
          refine lv_iload_n hx hb dX12_falls_23 rfl (lv_at hl 3 rfl) ?_
          refine lv_aload_n hx hb dX12_falls_24 rfl (lv_at hl 0 rfl) ?_
          refine gtX12_147 hx hb hts hown hK hW cz12 dX12_falls_25 ?_
          refine lv_icmp_ge (tgt := 57) hx hb dX12_falls_28 (by decide) (fun c9 => ?_) (fun c9 => ?_)
          · have h := sh_t c9 h
            refine lv_aload_n hx hb dX12_falls_57 rfl (lv_at hl 0 rfl) ?_
            refine lv_lconst (v := (1 : Int64)) hx hb dX12_falls_58 (by decide) ?_
            refine lv_iload_n hx hb dX12_falls_59 rfl (lv_at hl 1 rfl) ?_
            refine lv_lshl hx hb dX12_falls_60 rfl ?_
            refine lv_lconst (v := (0 : Int64)) hx hb dX12_falls_61 (by decide) ?_
            obtain ⟨u10, M11, hcu10, h⟩ := bE_a h
            refine tb_cVV hZk hx hb hml hown hts hK hZ hW hS [.long ((1 : Int64) <<< (x1.toInt64 &&& 63)), .long (0 : Int64)] (mX12_findCounts (l := l) hZk ((1 : Int64) <<< (x1.toInt64 &&& 63)) (0 : Int64) M8 u10 M11 hcu10) pmX12_findCounts tw1455 (Wd.recv hK hW (t := 12) (by decide) cz12 (C := RX12) (T := TX12) (N := 58) rfl) ⟨Nat.le_of_ble_eq_true rfl, Nat.le_of_ble_eq_true rfl⟩ rfl hl.1 (Nat.le_of_ble_eq_true rfl) ⟨Nat.le_refl _, Nat.le_refl _⟩ rfl dX12_falls_62 (fun H locs hW hS => ?_)
            refine lv_iconst (v := (0 : Int32)) hx hb dX12_falls_65 (by decide) ?_
            refine lv_istore_n (lv' := [(3, .int (0 : Int32)), (0, .ref (ad 12 0)), (1, .int x1), (2, .int x2)]) hx hb dX12_falls_66 rfl hl (by decide) rfl (fun ls hl => ?_)
            refine lv_iconst (v := (0 : Int32)) hx hb dX12_falls_67 (by decide) ?_
            refine lv_istore (lv' := [(4, .int (0 : Int32)), (3, .int (0 : Int32)), (0, .ref (ad 12 0)), (1, .int x1), (2, .int x2)]) hx hb dX12_falls_68 hl (by decide) rfl (fun ls hl => ?_)
            have L12 : ∀ (n12 : Nat) (i13 : Int32) (i14 : Int32) (H : Heap) (locs : List Loc) (ls : Array Slot), Wd D cy A cnM ad M11 H → va_S A s.heap H locs → lv_has ls 5 [(0, .ref (ad 12 0)), (2, .int x2), (3, .int i13), (4, .int i14)] → fX12_falls_l70 M11 x2 n12 i13 i14 = some (r, M') → W p l e (rm 3 80) s m args below meth c H locs 0 0 (MQ below (QI D cy A cnM ad r M') args s 0 0 A) (F0 m 70 ls []) := by
              intro n12
              induction n12 with
              | zero => intro i13 i14 H locs ls hW hS hl h; cases h
              | succ n12 ih12 =>
                intro i13 i14 H locs ls hW hS hl h
                unfold fX12_falls_l70 fX12_falls_b70 at h
                refine lv_iload hx hb dX12_falls_70 (lv_at hl 3 rfl) ?_
                refine lv_aload_n hx hb dX12_falls_72 rfl (lv_at hl 0 rfl) ?_
                refine gtX12_147 hx hb hts hown hK hW cz12 dX12_falls_73 ?_
                refine lv_icmp_ge (tgt := 119) hx hb dX12_falls_76 (by decide) (fun c15 => ?_) (fun c15 => ?_)
                · have h := sh_t c15 h
                  refine lv_iload_n hx hb dX12_falls_119 rfl (lv_at hl 1 rfl) ?_
                  refine lv_if_ge (tgt := 127) hx hb dX12_falls_120 (by decide) (fun c16 => ?_) (fun c16 => ?_)
                  · have h := sh_t c16 h
                    refine lv_iconst (v := (-1 : Int32)) hx hb dX12_falls_127 (by decide) ?_
                    exact tb_iretE h hx hb hr hS hW hlk dX12_falls_128
                  · have h := sh_f c16 h
                    refine lv_iload_n hx hb dX12_falls_123 rfl (lv_at hl 2 rfl) ?_
                    refine lv_goto (tgt := 128) hx hb dX12_falls_124 (by decide) ?_
                    exact tb_iretE h hx hb hr hS hW hlk dX12_falls_128
                · have h := sh_f c15 h
                  refine lv_aload_n hx hb dX12_falls_79 rfl (lv_at hl 0 rfl) ?_
                  refine gtX12_84 hx hb hts hown hK hW cz12 dX12_falls_80 ?_
                  refine lv_iload hx hb dX12_falls_83 (lv_at hl 3 rfl) ?_
                  obtain ⟨hj, h⟩ := ix_a h
                  refine al74 hx hb hK hW cz74 hj dX12_falls_85 ?_
                  refine lv_if_eq (tgt := 113) hx hb dX12_falls_86 (by decide) (fun c17 => ?_) (fun c17 => ?_)
                  · have h := sh_t c17 h
                    obtain ⟨v18, ev18⟩ : ∃ y : Int32, y = i14 + (1 : Int32) := ⟨_, rfl⟩
                    have h := nm_a ev18 h
                    refine lv_iinc (v := v18) (lv' := [(4, .int v18), (0, .ref (ad 12 0)), (2, .int x2), (3, .int i13)]) hx hb dX12_falls_113 hl (k := 3) rfl (by rw [ev18]; rfl) (by decide) rfl (fun ls hl => ?_)
                    refine lv_goto (tgt := 70) hx hb dX12_falls_116 (by decide) ?_
                    exact ih12 i13 v18 _ _ _ hW hS (lv_sub hl [1, 2, 3, 0] rfl) h
                  · have h := sh_f c17 h
                    refine lv_aload_n hx hb dX12_falls_89 rfl (lv_at hl 0 rfl) ?_
                    refine gtX12_63 hx hb hts hown hK hW cz12 dX12_falls_90 ?_
                    refine lv_iload hx hb dX12_falls_93 (lv_at hl 3 rfl) ?_
                    obtain ⟨hj, h⟩ := ix_a h
                    refine al67 hx hb hK hW cz67 hj dX12_falls_95 ?_
                    refine lv_if_le (tgt := 102) hx hb dX12_falls_96 (by decide) (fun c19 => ?_) (fun c19 => ?_)
                    · have h := sh_t c19 h
                      refine lv_iload_n hx hb dX12_falls_102 rfl (lv_at hl 2 rfl) ?_
                      refine lv_iload_n hx hb dX12_falls_103 rfl (lv_at hl 1 rfl) ?_
                      refine lv_icmp_ne (tgt := 110) hx hb dX12_falls_104 (by decide) (fun c20 => ?_) (fun c20 => ?_)
                      · have h := sh_f c20 h
                        obtain ⟨v21, ev21⟩ : ∃ y : Int32, y = i13 + (1 : Int32) := ⟨_, rfl⟩
                        have h := nm_a ev21 h
                        refine lv_iinc (v := v21) (lv' := [(3, .int v21), (0, .ref (ad 12 0)), (2, .int x2), (4, .int i14)]) hx hb dX12_falls_110 hl (k := 2) rfl (by rw [ev21]; rfl) (by decide) rfl (fun ls hl => ?_)
                        obtain ⟨v22, ev22⟩ : ∃ y : Int32, y = i14 + (1 : Int32) := ⟨_, rfl⟩
                        have h := nm_a ev22 h
                        refine lv_iinc (v := v22) (lv' := [(4, .int v22), (3, .int v21), (0, .ref (ad 12 0)), (2, .int x2)]) hx hb dX12_falls_113 hl (k := 3) rfl (by rw [ev22]; rfl) (by decide) rfl (fun ls hl => ?_)
                        refine lv_goto (tgt := 70) hx hb dX12_falls_116 (by decide) ?_
                        exact ih12 v21 v22 _ _ _ hW hS (lv_sub hl [2, 3, 1, 0] rfl) h
                      · have h := sh_t c20 h
                        refine lv_iload hx hb dX12_falls_107 (lv_at hl 3 rfl) ?_
                        exact tb_iretE h hx hb hr hS hW hlk dX12_falls_109
                    · have h := sh_f c19 h
                      refine lv_goto (tgt := 113) hx hb dX12_falls_99 (by decide) ?_
                      obtain ⟨v23, ev23⟩ : ∃ y : Int32, y = i14 + (1 : Int32) := ⟨_, rfl⟩
                      have h := nm_a ev23 h
                      refine lv_iinc (v := v23) (lv' := [(4, .int v23), (0, .ref (ad 12 0)), (2, .int x2), (3, .int i13)]) hx hb dX12_falls_113 hl (k := 3) rfl (by rw [ev23]; rfl) (by decide) rfl (fun ls hl => ?_)
                      refine lv_goto (tgt := 70) hx hb dX12_falls_116 (by decide) ?_
                      exact ih12 i13 v23 _ _ _ hW hS (lv_sub hl [1, 2, 3, 0] rfl) h
            exact L12 FU (0 : Int32) (0 : Int32) _ _ _ hW hS (lv_sub hl [2, 4, 1, 0] rfl) h
          · have h := sh_f c9 h
            refine lv_aload_n hx hb dX12_falls_31 rfl (lv_at hl 0 rfl) ?_
            refine gtX12_84 hx hb hts hown hK hW cz12 dX12_falls_32 ?_
            refine lv_iload_n hx hb dX12_falls_35 rfl (lv_at hl 3 rfl) ?_
            refine lv_aload_n hx hb dX12_falls_36 rfl (lv_at hl 0 rfl) ?_
            refine gtX12_63 hx hb hts hown hK hW cz12 dX12_falls_37 ?_
            refine lv_iload_n hx hb dX12_falls_40 rfl (lv_at hl 3 rfl) ?_
            obtain ⟨hj, h⟩ := ix_a h
            refine al67 hx hb hK hW cz67 hj dX12_falls_41 ?_
            refine lv_if_le (tgt := 49) hx hb dX12_falls_42 (by decide) (fun c24 => ?_) (fun c24 => ?_)
            · have h := sh_t c24 h
              refine lv_iconst (v := (0 : Int32)) hx hb dX12_falls_49 (by decide) ?_
              obtain ⟨hj, h⟩ := ix_a h
              refine as74 hx hb hK hW hS cz74 hj dX12_falls_50 (fun H locs hW hS => ?_)
              obtain ⟨M25, eM25⟩ : ∃ y, y = msI M8 7400 0 i7.toNatClampNeg (vp_nar .boolean (0 : Int32)) := ⟨_, rfl⟩
              have h := nm_a eM25 h
              rw [← eM25] at hW
              obtain ⟨v26, ev26⟩ : ∃ y : Int32, y = i7 + (1 : Int32) := ⟨_, rfl⟩
              have h := nm_a ev26 h
              refine lv_iinc (v := v26) (lv' := [(3, .int v26), (0, .ref (ad 12 0)), (1, .int x1), (2, .int x2)]) hx hb dX12_falls_51 hl (k := 3) rfl (by rw [ev26]; rfl) (by decide) rfl (fun ls hl => ?_)
              refine lv_goto (tgt := 23) hx hb dX12_falls_54 (by decide) ?_
              exact ih6 v26 M25 _ _ _ hW hS (lv_sub hl [1, 2, 3, 0] rfl) h
            · have h := sh_f c24 h
              refine lv_iconst (v := (1 : Int32)) hx hb dX12_falls_45 (by decide) ?_
              refine lv_goto (tgt := 50) hx hb dX12_falls_46 (by decide) ?_
              obtain ⟨hj, h⟩ := ix_a h
              refine as74 hx hb hK hW hS cz74 hj dX12_falls_50 (fun H locs hW hS => ?_)
              obtain ⟨M27, eM27⟩ : ∃ y, y = msI M8 7400 0 i7.toNatClampNeg (vp_nar .boolean (1 : Int32)) := ⟨_, rfl⟩
              have h := nm_a eM27 h
              rw [← eM27] at hW
              obtain ⟨v28, ev28⟩ : ∃ y : Int32, y = i7 + (1 : Int32) := ⟨_, rfl⟩
              have h := nm_a ev28 h
              refine lv_iinc (v := v28) (lv' := [(3, .int v28), (0, .ref (ad 12 0)), (1, .int x1), (2, .int x2)]) hx hb dX12_falls_51 hl (k := 3) rfl (by rw [ev28]; rfl) (by decide) rfl (fun ls hl => ?_)
              refine lv_goto (tgt := 23) hx hb dX12_falls_54 (by decide) ?_
              exact ih6 v28 M27 _ _ _ hW hS (lv_sub hl [1, 2, 3, 0] rfl) h
      exact L6 FU (0 : Int32) M5 _ _ _ hW hS (lv_sub hl [1, 2, 3, 0] rfl) h
    · have h := sh_f c3 h
      refine lv_iconst (v := (-1 : Int32)) hx hb dX12_falls_13 (by decide) ?_
      exact tb_iretE h hx hb hr hS hW hlk dX12_falls_14
