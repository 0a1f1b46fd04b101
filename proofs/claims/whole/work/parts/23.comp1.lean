def fX3_pull (M0 : Mem) : Option (Int32 × Mem) :=
  if 0 < (mgI M0 307 0 0) then (nm ((mgI M0 307 0 0) - (1 : Int32)) fun v2 => nm (msI M0 307 0 0 v2) fun M3 => ix (mgI M3 307 0 0) 64 <| some (mgI M3 3100 0 (mgI M3 307 0 0).toNatClampNeg, M3)) else (some ((0 : Int32), M0))
set_option maxHeartbeats 4000000 in
set_option maxRecDepth 100000 in
theorem mX3_pull {l : Launch} {D : va_G} {cy : Nat → ClassId} {A : Nat → Prop} {K : KC} {nS nL : Nat} {ad : Nat → Nat → Nat} (hZk : ZOK A (ZC A K)) (M0 : Mem) (r : Int32) (M' : Mem) (h : fX3_pull M0 = some (r, M')) : Met l yX3_pull (wt yX3_pull cX3_pull 1 (some .int)) (rm 0 0) (CPre D cy A (ZC A K) (cnC nS nL) ad M0 [.ref (ad 3 0)]) (QI D cy A (cnC nS nL) ad r M') 0 0 A := by
  refine tb_start [.ref (ad 3 0)] [(0, .ref (ad 3 0))] RX3 rfl (by decide +kernel) (Nat.le_of_ble_eq_true rfl) rfl (fun p e s m args below meth c hx hb hr hml hown hts hlk hW hK hZ ls hl => ?_)
  have hS : va_S A s.heap s.heap [] := va_S.rf
  unfold fX3_pull at h
  refine lv_aload_n hx hb dX3_pull_0 rfl (lv_at hl 0 rfl) ?_
  refine gtX3_174 hx hb hts hown hK hW cz3 dX3_pull_1 ?_
  refine lv_if_gt (tgt := 9) hx hb dX3_pull_4 (by decide) (fun c1 => ?_) (fun c1 => ?_)
  · replace h := sh_t c1 h
    refine lv_aload_n hx hb dX3_pull_9 rfl (lv_at hl 0 rfl) ?_
    refine lv_dup hx hb dX3_pull_10 rfl ?_
    refine gtX3_174 hx hb hts hown hK hW cz3 dX3_pull_11 ?_
    refine lv_iconst (v := (1 : Int32)) hx hb dX3_pull_14 (by decide) ?_
    refine lv_isub hx hb dX3_pull_15 ?_
    refine lv_topi (fun v2 ev2 => ?_)
    replace h := nm_a ev2 h
    refine ptX3_174 hx hb hts hown hK hW hS cz3 dX3_pull_16 (fun H locs hW hS => ?_)
    obtain ⟨M3, eM3⟩ : ∃ y, y = msI M0 307 0 0 v2 := ⟨_, rfl⟩
    replace h := nm_a eM3 h
    rw [← eM3] at hW
    refine lv_aload_n hx hb dX3_pull_19 rfl (lv_at hl 0 rfl) ?_
    refine gtX3_42 hx hb hts hown hK hW cz3 dX3_pull_20 ?_
    refine lv_aload_n hx hb dX3_pull_23 rfl (lv_at hl 0 rfl) ?_
    refine gtX3_174 hx hb hts hown hK hW cz3 dX3_pull_24 ?_
    replace h := ix_a h
    obtain ⟨hj, h⟩ := h
    refine al31 hx hb hK hW cz31 hj dX3_pull_27 ?_
    exact tb_iretE h hx hb hr hS hW hlk dX3_pull_28
  · replace h := sh_f c1 h
    refine lv_iconst (v := (0 : Int32)) hx hb dX3_pull_7 (by decide) ?_
    exact tb_iretE h hx hb hr hS hW hlk dX3_pull_8
def fX3_push (x1 : Int32) (M0 : Mem) : Option (Unit × Mem) :=
  if (64 : Int32) ≤ (mgI M0 307 0 0) then (some ((), M0)) else (ix (mgI M0 307 0 0) 64 <| nm (msI M0 3100 0 ((mgI M0 307 0 0).toNatClampNeg) x1) fun M2 => nm ((mgI M2 307 0 0) + (1 : Int32)) fun v3 => nm (msI M2 307 0 0 v3) fun M4 => some ((), M4))
set_option maxHeartbeats 4000000 in
set_option maxRecDepth 100000 in
theorem mX3_push {l : Launch} {D : va_G} {cy : Nat → ClassId} {A : Nat → Prop} {K : KC} {nS nL : Nat} {ad : Nat → Nat → Nat} (hZk : ZOK A (ZC A K)) (x1 : Int32) (M0 : Mem) (r : Unit) (M' : Mem) (h : fX3_push x1 M0 = some (r, M')) : Met l yX3_push (wt yX3_push cX3_push 2 none) (rm 0 0) (CPre D cy A (ZC A K) (cnC nS nL) ad M0 [.ref (ad 3 0), .int x1]) (QV D cy A (cnC nS nL) ad r M') 0 0 A := by
  refine tb_start [.ref (ad 3 0), .int x1] [(0, .ref (ad 3 0)), (1, .int x1)] RX3 rfl (by decide +kernel) (Nat.le_of_ble_eq_true rfl) rfl (fun p e s m args below meth c hx hb hr hml hown hts hlk hW hK hZ ls hl => ?_)
  have hS : va_S A s.heap s.heap [] := va_S.rf
  unfold fX3_push at h
  refine lv_aload_n hx hb dX3_push_0 rfl (lv_at hl 0 rfl) ?_
  refine gtX3_174 hx hb hts hown hK hW cz3 dX3_push_1 ?_
  refine lv_bipush (v := (64 : Int32)) hx hb dX3_push_4 (by decide) ?_
  refine lv_icmp_ge (tgt := 29) hx hb dX3_push_6 (by decide) (fun c1 => ?_) (fun c1 => ?_)
  · replace h := sh_t c1 h
    exact tb_vretE h hx hb hr hS hW hlk dX3_push_29
  · replace h := sh_f c1 h
    refine lv_aload_n hx hb dX3_push_9 rfl (lv_at hl 0 rfl) ?_
    refine gtX3_42 hx hb hts hown hK hW cz3 dX3_push_10 ?_
    refine lv_aload_n hx hb dX3_push_13 rfl (lv_at hl 0 rfl) ?_
    refine gtX3_174 hx hb hts hown hK hW cz3 dX3_push_14 ?_
    refine lv_iload_n hx hb dX3_push_17 rfl (lv_at hl 1 rfl) ?_
    replace h := ix_a h
    obtain ⟨hj, h⟩ := h
    refine as31 hx hb hK hW hS cz31 hj dX3_push_18 (fun H locs hW hS => ?_)
    obtain ⟨M2, eM2⟩ : ∃ y, y = msI M0 3100 0 ((mgI M0 307 0 0).toNatClampNeg) x1 := ⟨_, rfl⟩
    replace h := nm_a eM2 h
    rw [← eM2] at hW
    refine lv_aload_n hx hb dX3_push_19 rfl (lv_at hl 0 rfl) ?_
    refine lv_dup hx hb dX3_push_20 rfl ?_
    refine gtX3_174 hx hb hts hown hK hW cz3 dX3_push_21 ?_
    refine lv_iconst (v := (1 : Int32)) hx hb dX3_push_24 (by decide) ?_
    refine lv_iadd hx hb dX3_push_25 ?_
    refine lv_topi (fun v3 ev3 => ?_)
    replace h := nm_a ev3 h
    refine ptX3_174 hx hb hts hown hK hW hS cz3 dX3_push_26 (fun H locs hW hS => ?_)
    obtain ⟨M4, eM4⟩ : ∃ y, y = msI M2 307 0 0 v3 := ⟨_, rfl⟩
    replace h := nm_a eM4 h
    rw [← eM4] at hW
    exact tb_vretE h hx hb hr hS hW hlk dX3_push_29
def fX3_joined (x0 : Int32) (x1 : Int32) (x2 : Int32) : Option Int32 :=
  if x0 = (38 : Int32) then (if x1 = 0 then (some (0 : Int32)) else (if x2 = 0 then (some (0 : Int32)) else (some (1 : Int32)))) else if x0 = (42 : Int32) then (some (x1 * x2)) else if x0 = (43 : Int32) then (some (x1 + x2)) else if x0 = (45 : Int32) then (some (x1 - x2)) else if x0 = (47 : Int32) then (if x2 = 0 then (some (0 : Int32)) else (nzI x2 <| some (x1 / x2))) else if x0 = (60 : Int32) then (if x2 ≤ x1 then (some (0 : Int32)) else (some (1 : Int32))) else if x0 = (61 : Int32) then (if x1 = x2 then (some (1 : Int32)) else (some (0 : Int32))) else if x0 = (62 : Int32) then (if x1 ≤ x2 then (some (0 : Int32)) else (some (1 : Int32))) else if x0 = (124 : Int32) then (if x1 = 0 then (if x2 = 0 then (some (0 : Int32)) else (some (1 : Int32))) else (some (1 : Int32))) else if x2 = 0 then (some (0 : Int32)) else (nzI x2 <| some (x1 - x1 / x2 * x2))
set_option maxHeartbeats 4000000 in
set_option maxRecDepth 100000 in
theorem mX3_joined {l : Launch} {D : va_G} {cy : Nat → ClassId} {A : Nat → Prop} {K : KC} {nS nL : Nat} {ad : Nat → Nat → Nat} (hZk : ZOK A (ZC A K)) (x0 : Int32) (x1 : Int32) (x2 : Int32) (M0 : Mem) (r : Int32) (h : fX3_joined x0 x1 x2 = some r) : Met l yX3_joined (wt yX3_joined cX3_joined 3 (some .int)) (rm 0 0) (CPre D cy A (ZC A K) (cnC nS nL) ad M0 [.int x0, .int x1, .int x2]) (QI D cy A (cnC nS nL) ad r M0) 0 0 A := by
  refine tb_start [.int x0, .int x1, .int x2] [(0, .int x0), (1, .int x1), (2, .int x2)] RX3 rfl (by decide +kernel) (Nat.le_of_ble_eq_true rfl) rfl (fun p e s m args below meth c hx hb hr hml hown hts hlk hW hK hZ ls hl => ?_)
  have hS : va_S A s.heap s.heap [] := va_S.rf
  unfold fX3_joined at h
  refine lv_iload_n hx hb dX3_joined_0 rfl (lv_at hl 0 rfl) ?_
  by_cases c1 : x0 = (38 : Int32)
  · replace h := sh_t c1 h
    refine lv_lookup (off := 97) (tgt := 98) hx hb dX3_joined_1 (by decide) (by rw [c1]; decide) (by decide) ?_
    refine lv_iload_n hx hb dX3_joined_98 rfl (lv_at hl 1 rfl) ?_
    refine lv_if_eq (tgt := 110) hx hb dX3_joined_99 (by decide) (fun c2 => ?_) (fun c2 => ?_)
    · replace h := sh_t c2 h
      refine lv_iconst (v := (0 : Int32)) hx hb dX3_joined_110 (by decide) ?_
      exact tb_iretO h hx hb hr hS hW hlk dX3_joined_111
    · replace h := sh_f c2 h
      refine lv_iload_n hx hb dX3_joined_102 rfl (lv_at hl 2 rfl) ?_
      refine lv_if_eq (tgt := 110) hx hb dX3_joined_103 (by decide) (fun c3 => ?_) (fun c3 => ?_)
      · replace h := sh_t c3 h
        refine lv_iconst (v := (0 : Int32)) hx hb dX3_joined_110 (by decide) ?_
        exact tb_iretO h hx hb hr hS hW hlk dX3_joined_111
      · replace h := sh_f c3 h
        refine lv_iconst (v := (1 : Int32)) hx hb dX3_joined_106 (by decide) ?_
        refine lv_goto (tgt := 111) hx hb dX3_joined_107 (by decide) ?_
        exact tb_iretO h hx hb hr hS hW hlk dX3_joined_111
  · replace h := sh_f c1 h
    by_cases c4 : x0 = (42 : Int32)
    · replace h := sh_t c4 h
      refine lv_lookup (off := 152) (tgt := 153) hx hb dX3_joined_1 (by decide) (by rw [c4]; decide) (by decide) ?_
      refine lv_iload_n hx hb dX3_joined_153 rfl (lv_at hl 1 rfl) ?_
      refine lv_iload_n hx hb dX3_joined_154 rfl (lv_at hl 2 rfl) ?_
      refine lv_imul hx hb dX3_joined_155 ?_
      exact tb_iretO h hx hb hr hS hW hlk dX3_joined_156
    · replace h := sh_f c4 h
      by_cases c5 : x0 = (43 : Int32)
      · replace h := sh_t c5 h
        refine lv_lookup (off := 144) (tgt := 145) hx hb dX3_joined_1 (by decide) (by rw [c5]; decide) (by decide) ?_
        refine lv_iload_n hx hb dX3_joined_145 rfl (lv_at hl 1 rfl) ?_
        refine lv_iload_n hx hb dX3_joined_146 rfl (lv_at hl 2 rfl) ?_
        refine lv_iadd hx hb dX3_joined_147 ?_
        exact tb_iretO h hx hb hr hS hW hlk dX3_joined_148
      · replace h := sh_f c5 h
        by_cases c6 : x0 = (45 : Int32)
        · replace h := sh_t c6 h
          refine lv_lookup (off := 148) (tgt := 149) hx hb dX3_joined_1 (by decide) (by rw [c6]; decide) (by decide) ?_
          refine lv_iload_n hx hb dX3_joined_149 rfl (lv_at hl 1 rfl) ?_
          refine lv_iload_n hx hb dX3_joined_150 rfl (lv_at hl 2 rfl) ?_
          refine lv_isub hx hb dX3_joined_151 ?_
          exact tb_iretO h hx hb hr hS hW hlk dX3_joined_152
        · replace h := sh_f c6 h
          by_cases c7 : x0 = (47 : Int32)
          · replace h := sh_t c7 h
            refine lv_lookup (off := 156) (tgt := 157) hx hb dX3_joined_1 (by decide) (by rw [c7]; decide) (by decide) ?_
            refine lv_iload_n hx hb dX3_joined_157 rfl (lv_at hl 2 rfl) ?_
            refine lv_if_ne (tgt := 165) hx hb dX3_joined_158 (by decide) (fun c8 => ?_) (fun c8 => ?_)
            · replace h := sh_f c8 h
              refine lv_iload_n hx hb dX3_joined_165 rfl (lv_at hl 1 rfl) ?_
              refine lv_iload_n hx hb dX3_joined_166 rfl (lv_at hl 2 rfl) ?_
              replace h := nzI_a h
              obtain ⟨hne, h⟩ := h
              refine lv_idiv hx hb dX3_joined_167 hne ?_
              exact tb_iretO h hx hb hr hS hW hlk dX3_joined_168
            · replace h := sh_t c8 h
              refine lv_iconst (v := (0 : Int32)) hx hb dX3_joined_161 (by decide) ?_
              refine lv_goto (tgt := 168) hx hb dX3_joined_162 (by decide) ?_
              exact tb_iretO h hx hb hr hS hW hlk dX3_joined_168
          · replace h := sh_f c7 h
            by_cases c9 : x0 = (60 : Int32)
            · replace h := sh_t c9 h
              refine lv_lookup (off := 111) (tgt := 112) hx hb dX3_joined_1 (by decide) (by rw [c9]; decide) (by decide) ?_
              refine lv_iload_n hx hb dX3_joined_112 rfl (lv_at hl 1 rfl) ?_
              refine lv_iload_n hx hb dX3_joined_113 rfl (lv_at hl 2 rfl) ?_
              refine lv_icmp_ge (tgt := 121) hx hb dX3_joined_114 (by decide) (fun c10 => ?_) (fun c10 => ?_)
              · replace h := sh_t c10 h
                refine lv_iconst (v := (0 : Int32)) hx hb dX3_joined_121 (by decide) ?_
                exact tb_iretO h hx hb hr hS hW hlk dX3_joined_122
              · replace h := sh_f c10 h
                refine lv_iconst (v := (1 : Int32)) hx hb dX3_joined_117 (by decide) ?_
                refine lv_goto (tgt := 122) hx hb dX3_joined_118 (by decide) ?_
                exact tb_iretO h hx hb hr hS hW hlk dX3_joined_122
            · replace h := sh_f c9 h
              by_cases c11 : x0 = (61 : Int32)
              · replace h := sh_t c11 h
                refine lv_lookup (off := 122) (tgt := 123) hx hb dX3_joined_1 (by decide) (by rw [c11]; decide) (by decide) ?_
                refine lv_iload_n hx hb dX3_joined_123 rfl (lv_at hl 1 rfl) ?_
                refine lv_iload_n hx hb dX3_joined_124 rfl (lv_at hl 2 rfl) ?_
                refine lv_icmp_ne (tgt := 132) hx hb dX3_joined_125 (by decide) (fun c12 => ?_) (fun c12 => ?_)
                · replace h := sh_f c12 h
                  refine lv_iconst (v := (0 : Int32)) hx hb dX3_joined_132 (by decide) ?_
                  exact tb_iretO h hx hb hr hS hW hlk dX3_joined_133
                · replace h := sh_t c12 h
                  refine lv_iconst (v := (1 : Int32)) hx hb dX3_joined_128 (by decide) ?_
                  refine lv_goto (tgt := 133) hx hb dX3_joined_129 (by decide) ?_
                  exact tb_iretO h hx hb hr hS hW hlk dX3_joined_133
              · replace h := sh_f c11 h
                by_cases c13 : x0 = (62 : Int32)
                · replace h := sh_t c13 h
                  refine lv_lookup (off := 133) (tgt := 134) hx hb dX3_joined_1 (by decide) (by rw [c13]; decide) (by decide) ?_
                  refine lv_iload_n hx hb dX3_joined_134 rfl (lv_at hl 1 rfl) ?_
                  refine lv_iload_n hx hb dX3_joined_135 rfl (lv_at hl 2 rfl) ?_
                  refine lv_icmp_le (tgt := 143) hx hb dX3_joined_136 (by decide) (fun c14 => ?_) (fun c14 => ?_)
                  · replace h := sh_t c14 h
                    refine lv_iconst (v := (0 : Int32)) hx hb dX3_joined_143 (by decide) ?_
                    exact tb_iretO h hx hb hr hS hW hlk dX3_joined_144
                  · replace h := sh_f c14 h
                    refine lv_iconst (v := (1 : Int32)) hx hb dX3_joined_139 (by decide) ?_
                    refine lv_goto (tgt := 144) hx hb dX3_joined_140 (by decide) ?_
                    exact tb_iretO h hx hb hr hS hW hlk dX3_joined_144
                · replace h := sh_f c13 h
                  by_cases c15 : x0 = (124 : Int32)
                  · replace h := sh_t c15 h
                    refine lv_lookup (off := 83) (tgt := 84) hx hb dX3_joined_1 (by decide) (by rw [c15]; decide) (by decide) ?_
                    refine lv_iload_n hx hb dX3_joined_84 rfl (lv_at hl 1 rfl) ?_
                    refine lv_if_ne (tgt := 92) hx hb dX3_joined_85 (by decide) (fun c16 => ?_) (fun c16 => ?_)
                    · replace h := sh_f c16 h
                      refine lv_iconst (v := (1 : Int32)) hx hb dX3_joined_92 (by decide) ?_
                      refine lv_goto (tgt := 97) hx hb dX3_joined_93 (by decide) ?_
                      exact tb_iretO h hx hb hr hS hW hlk dX3_joined_97
                    · replace h := sh_t c16 h
                      refine lv_iload_n hx hb dX3_joined_88 rfl (lv_at hl 2 rfl) ?_
                      refine lv_if_eq (tgt := 96) hx hb dX3_joined_89 (by decide) (fun c17 => ?_) (fun c17 => ?_)
                      · replace h := sh_t c17 h
                        refine lv_iconst (v := (0 : Int32)) hx hb dX3_joined_96 (by decide) ?_
                        exact tb_iretO h hx hb hr hS hW hlk dX3_joined_97
                      · replace h := sh_f c17 h
                        refine lv_iconst (v := (1 : Int32)) hx hb dX3_joined_92 (by decide) ?_
                        refine lv_goto (tgt := 97) hx hb dX3_joined_93 (by decide) ?_
                        exact tb_iretO h hx hb hr hS hW hlk dX3_joined_97
                  · replace h := sh_f c15 h
                    refine lv_lookup (off := 168) (tgt := 169) hx hb dX3_joined_1 (by decide) (lk_no (fun e => c1 (Int32.toInt_inj.mp (e.symm.trans (by decide)))) (lk_no (fun e => c4 (Int32.toInt_inj.mp (e.symm.trans (by decide)))) (lk_no (fun e => c5 (Int32.toInt_inj.mp (e.symm.trans (by decide)))) (lk_no (fun e => c6 (Int32.toInt_inj.mp (e.symm.trans (by decide)))) (lk_no (fun e => c7 (Int32.toInt_inj.mp (e.symm.trans (by decide)))) (lk_no (fun e => c9 (Int32.toInt_inj.mp (e.symm.trans (by decide)))) (lk_no (fun e => c11 (Int32.toInt_inj.mp (e.symm.trans (by decide)))) (lk_no (fun e => c13 (Int32.toInt_inj.mp (e.symm.trans (by decide)))) (lk_no (fun e => c15 (Int32.toInt_inj.mp (e.symm.trans (by decide)))) (lk_end)))))))))) (by decide) ?_
                    refine lv_iload_n hx hb dX3_joined_169 rfl (lv_at hl 2 rfl) ?_
                    refine lv_if_ne (tgt := 177) hx hb dX3_joined_170 (by decide) (fun c18 => ?_) (fun c18 => ?_)
                    · replace h := sh_f c18 h
                      refine lv_iload_n hx hb dX3_joined_177 rfl (lv_at hl 1 rfl) ?_
                      refine lv_iload_n hx hb dX3_joined_178 rfl (lv_at hl 2 rfl) ?_
                      replace h := nzI_a h
                      obtain ⟨hne, h⟩ := h
                      refine lv_irem hx hb dX3_joined_179 hne ?_
                      exact tb_iretO h hx hb hr hS hW hlk dX3_joined_180
                    · replace h := sh_t c18 h
                      refine lv_iconst (v := (0 : Int32)) hx hb dX3_joined_173 (by decide) ?_
                      refine lv_goto (tgt := 180) hx hb dX3_joined_174 (by decide) ?_
                      exact tb_iretO h hx hb hr hS hW hlk dX3_joined_180
def fX3_step (x1 : Int32) (M0 : Mem) : Option (Unit × Mem) :=
  if 0 ≤ x1 then (if x1 < 0 then (if x1 = (-126 : Int32) then (bE (fX3_pull M0) fun b19 M20 => bE (fX3_push (-b19) M20) fun u21 M22 => some ((), M22)) else (if x1 = (-33 : Int32) then (bE (fX3_pull M0) fun b12 M13 => if b12 = 0 then (bE (fX3_push (1 : Int32) M13) fun u17 M18 => some ((), M18)) else (bE (fX3_push (0 : Int32) M13) fun u15 M16 => some ((), M16))) else (bE (fX3_pull M0) fun b5 M6 => bE (fX3_pull M6) fun b7 M8 => bd (fX3_joined (-x1) b7 b5) fun b9 => bE (fX3_push b9 M8) fun u10 M11 => some ((), M11)))) else (bE (fX3_push x1 M0) fun u23 M24 => some ((), M24))) else (bd (fJ0_indexOf_0f7a4 11 (((-x1).toUInt32 % 65536).toInt32) M0) fun b25 => if x1 < 0 then (if b25 < 0 then (if x1 = (-126 : Int32) then (bE (fX3_pull M0) fun b44 M45 => bE (fX3_push (-b44) M45) fun u46 M47 => some ((), M47)) else (if x1 = (-33 : Int32) then (bE (fX3_pull M0) fun b37 M38 => if b37 = 0 then (bE (fX3_push (1 : Int32) M38) fun u42 M43 => some ((), M43)) else (bE (fX3_push (0 : Int32) M38) fun u40 M41 => some ((), M41))) else (bE (fX3_pull M0) fun b30 M31 => bE (fX3_pull M31) fun b32 M33 => bd (fX3_joined (-x1) b32 b30) fun b34 => bE (fX3_push b34 M33) fun u35 M36 => some ((), M36)))) else (ix b25 7 <| bE (fX3_push (mgI M0 3000 0 b25.toNatClampNeg) M0) fun u48 M49 => some ((), M49))) else (bE (fX3_push x1 M0) fun u50 M51 => some ((), M51)))
set_option maxHeartbeats 4000000 in
set_option maxRecDepth 100000 in
theorem mX3_step {l : Launch} {D : va_G} {cy : Nat → ClassId} {A : Nat → Prop} {K : KC} {nS nL : Nat} {ad : Nat → Nat → Nat} (hZk : ZOK A (ZC A K)) (x1 : Int32) (M0 : Mem) (r : Unit) (M' : Mem) (h : fX3_step x1 M0 = some (r, M')) : Met l yX3_step (wt yX3_step cX3_step 5 none) (rm 4 106) (CPre D cy A (ZC A K) (cnC nS nL) ad M0 [.ref (ad 3 0), .int x1]) (QV D cy A (cnC nS nL) ad r M') 0 0 A := by
  refine tb_start [.ref (ad 3 0), .int x1] [(0, .ref (ad 3 0)), (1, .int x1)] RX3 rfl (by decide +kernel) (Nat.le_of_ble_eq_true rfl) rfl (fun p e s m args below meth c hx hb hr hml hown hts hlk hW hK hZ ls hl => ?_)
  have hS : va_S A s.heap s.heap [] := va_S.rf
  unfold fX3_step at h
  refine lv_iload_n hx hb dX3_step_0 rfl (lv_at hl 1 rfl) ?_
  refine lv_if_ge (tgt := 15) hx hb dX3_step_1 (by decide) (fun c1 => ?_) (fun c1 => ?_)
  · replace h := sh_t c1 h
    refine lv_iconst (v := (-1 : Int32)) hx hb dX3_step_15 (by decide) ?_
    refine lv_istore_n (lv' := [(2, .int (-1 : Int32)), (0, .ref (ad 3 0)), (1, .int x1)]) hx hb dX3_step_16 rfl hl (by decide) rfl (fun ls hl => ?_)
    refine lv_iload_n hx hb dX3_step_17 rfl (lv_at hl 2 rfl) ?_
    refine lv_if_lt (tgt := 29) hx hb dX3_step_18 (by decide) (fun c2 => ?_) (fun c2 => ?_)
    · replace h := sh_t c2 h
      refine lv_iload_n hx hb dX3_step_29 rfl (lv_at hl 0 rfl) ?_
      refine lv_if_lt (tgt := 46) hx hb dX3_step_30 (by decide) (fun _ => ?_) (fun hc => absurd hc (by decide))
      refine lv_iload_n hx hb dX3_step_46 rfl (lv_at hl 2 rfl) ?_
      refine lv_bipush (v := (-126 : Int32)) hx hb dX3_step_47 (by decide) ?_
      refine lv_icmp_ne (tgt := 64) hx hb dX3_step_49 (by decide) (fun c3 => ?_) (fun c3 => ?_)
      · replace h := sh_f c3 h
        refine lv_iload_n hx hb dX3_step_64 rfl (lv_at hl 2 rfl) ?_
        refine lv_bipush (v := (-33 : Int32)) hx hb dX3_step_65 (by decide) ?_
        refine lv_icmp_ne (tgt := 89) hx hb dX3_step_67 (by decide) (fun c4 => ?_) (fun c4 => ?_)
        · replace h := sh_f c4 h
          refine lv_aload_n hx hb dX3_step_89 rfl (lv_at hl 1 rfl) ?_
          replace h := bE_a h
          obtain ⟨b5, M6, hcb5, h⟩ := h
          refine tb_cVI hZk hx hb hml hown hts hK hZ hW hS [] (mX3_pull (l := l) hZk M0 b5 M6 hcb5) pmX3_pull tw825 (Wd.recv hK hW (t := 3) (by decide) cz3 (C := RX3) (T := TX3) (N := 10) rfl) ⟨Nat.le_of_ble_eq_true rfl, Nat.le_of_ble_eq_true rfl⟩ rfl hl.1 (Nat.le_of_ble_eq_true rfl) ⟨Nat.le_refl _, Nat.le_refl _⟩ rfl dX3_step_90 (fun H locs hW hS => ?_)
          refine lv_istore_n (lv' := [(3, .int b5), (2, .int (-1 : Int32)), (0, .ref (ad 3 0)), (1, .int x1)]) hx hb dX3_step_93 rfl hl (by decide) rfl (fun ls hl => ?_)
          refine lv_aload_n hx hb dX3_step_94 rfl (lv_at hl 2 rfl) ?_
          replace h := bE_a h
          obtain ⟨b7, M8, hcb7, h⟩ := h
          refine tb_cVI hZk hx hb hml hown hts hK hZ hW hS [] (mX3_pull (l := l) hZk M6 b7 M8 hcb7) pmX3_pull tw825 (Wd.recv hK hW (t := 3) (by decide) cz3 (C := RX3) (T := TX3) (N := 10) rfl) ⟨Nat.le_of_ble_eq_true rfl, Nat.le_of_ble_eq_true rfl⟩ rfl hl.1 (Nat.le_of_ble_eq_true rfl) ⟨Nat.le_refl _, Nat.le_refl _⟩ rfl dX3_step_95 (fun H locs hW hS => ?_)
          refine lv_istore (lv' := [(4, .int b7), (3, .int b5), (2, .int (-1 : Int32)), (0, .ref (ad 3 0)), (1, .int x1)]) hx hb dX3_step_98 hl (by decide) rfl (fun ls hl => ?_)
          refine lv_aload_n hx hb dX3_step_100 rfl (lv_at hl 3 rfl) ?_
          refine lv_iload_n hx hb dX3_step_101 rfl (lv_at hl 4 rfl) ?_
          refine lv_ineg hx hb dX3_step_102 ?_
          refine lv_iload hx hb dX3_step_103 (lv_at hl 0 rfl) ?_
          refine lv_iload_n hx hb dX3_step_105 rfl (lv_at hl 1 rfl) ?_
          replace h := bd_a h
          obtain ⟨b9, hcb9, h⟩ := h
          refine tb_cSI hZk hx hb hml hown hts hK hZ hW hS [.int (-x1), .int b7, .int b5] (mX3_joined (l := l) hZk (-x1) b7 b5 M8 b9 hcb9) pmX3_joined tw910 ⟨Nat.le_of_ble_eq_true rfl, Nat.le_of_ble_eq_true rfl⟩ rfl hl.1 (Nat.le_of_ble_eq_true rfl) ⟨Nat.le_refl _, Nat.le_refl _⟩ rfl dX3_step_106 (fun H locs hW hS => ?_)
          replace h := bE_a h
          obtain ⟨u10, M11, hcu10, h⟩ := h
          refine tb_cVV hZk hx hb hml hown hts hK hZ hW hS [.int b9] (mX3_push (l := l) hZk b9 M8 u10 M11 hcu10) pmX3_push tw906 (Wd.recv hK hW (t := 3) (by decide) cz3 (C := RX3) (T := TX3) (N := 10) rfl) ⟨Nat.le_of_ble_eq_true rfl, Nat.le_of_ble_eq_true rfl⟩ rfl hl.1 (Nat.le_of_ble_eq_true rfl) ⟨Nat.le_refl _, Nat.le_refl _⟩ rfl dX3_step_109 (fun H locs hW hS => ?_)
          exact tb_vretE h hx hb hr hS hW hlk dX3_step_112
        · replace h := sh_t c4 h
          refine lv_aload_n hx hb dX3_step_70 rfl (lv_at hl 1 rfl) ?_
          refine lv_aload_n hx hb dX3_step_71 rfl (lv_at hl 1 rfl) ?_
          replace h := bE_a h
          obtain ⟨b12, M13, hcb12, h⟩ := h
          refine tb_cVI hZk hx hb hml hown hts hK hZ hW hS [] (mX3_pull (l := l) hZk M0 b12 M13 hcb12) pmX3_pull tw825 (Wd.recv hK hW (t := 3) (by decide) cz3 (C := RX3) (T := TX3) (N := 10) rfl) ⟨Nat.le_of_ble_eq_true rfl, Nat.le_of_ble_eq_true rfl⟩ rfl hl.1 (Nat.le_of_ble_eq_true rfl) ⟨Nat.le_refl _, Nat.le_refl _⟩ rfl dX3_step_72 (fun H locs hW hS => ?_)
          refine lv_if_ne (tgt := 82) hx hb dX3_step_75 (by decide) (fun c14 => ?_) (fun c14 => ?_)
          · replace h := sh_f c14 h
            refine lv_iconst (v := (0 : Int32)) hx hb dX3_step_82 (by decide) ?_
            replace h := bE_a h
            obtain ⟨u15, M16, hcu15, h⟩ := h
            refine tb_cVV hZk hx hb hml hown hts hK hZ hW hS [.int (0 : Int32)] (mX3_push (l := l) hZk (0 : Int32) M13 u15 M16 hcu15) pmX3_push tw906 (Wd.recv hK hW (t := 3) (by decide) cz3 (C := RX3) (T := TX3) (N := 10) rfl) ⟨Nat.le_of_ble_eq_true rfl, Nat.le_of_ble_eq_true rfl⟩ rfl hl.1 (Nat.le_of_ble_eq_true rfl) ⟨Nat.le_refl _, Nat.le_refl _⟩ rfl dX3_step_83 (fun H locs hW hS => ?_)
            refine lv_goto (tgt := 112) hx hb dX3_step_86 (by decide) ?_
            exact tb_vretE h hx hb hr hS hW hlk dX3_step_112
          · replace h := sh_t c14 h
            refine lv_iconst (v := (1 : Int32)) hx hb dX3_step_78 (by decide) ?_
            refine lv_goto (tgt := 83) hx hb dX3_step_79 (by decide) ?_
            replace h := bE_a h
            obtain ⟨u17, M18, hcu17, h⟩ := h
            refine tb_cVV hZk hx hb hml hown hts hK hZ hW hS [.int (1 : Int32)] (mX3_push (l := l) hZk (1 : Int32) M13 u17 M18 hcu17) pmX3_push tw906 (Wd.recv hK hW (t := 3) (by decide) cz3 (C := RX3) (T := TX3) (N := 10) rfl) ⟨Nat.le_of_ble_eq_true rfl, Nat.le_of_ble_eq_true rfl⟩ rfl hl.1 (Nat.le_of_ble_eq_true rfl) ⟨Nat.le_refl _, Nat.le_refl _⟩ rfl dX3_step_83 (fun H locs hW hS => ?_)
            refine lv_goto (tgt := 112) hx hb dX3_step_86 (by decide) ?_
            exact tb_vretE h hx hb hr hS hW hlk dX3_step_112
      · replace h := sh_t c3 h
        refine lv_aload_n hx hb dX3_step_52 rfl (lv_at hl 1 rfl) ?_
        refine lv_aload_n hx hb dX3_step_53 rfl (lv_at hl 1 rfl) ?_
        replace h := bE_a h
        obtain ⟨b19, M20, hcb19, h⟩ := h
        refine tb_cVI hZk hx hb hml hown hts hK hZ hW hS [] (mX3_pull (l := l) hZk M0 b19 M20 hcb19) pmX3_pull tw825 (Wd.recv hK hW (t := 3) (by decide) cz3 (C := RX3) (T := TX3) (N := 10) rfl) ⟨Nat.le_of_ble_eq_true rfl, Nat.le_of_ble_eq_true rfl⟩ rfl hl.1 (Nat.le_of_ble_eq_true rfl) ⟨Nat.le_refl _, Nat.le_refl _⟩ rfl dX3_step_54 (fun H locs hW hS => ?_)
        refine lv_ineg hx hb dX3_step_57 ?_
        replace h := bE_a h
        obtain ⟨u21, M22, hcu21, h⟩ := h
        refine tb_cVV hZk hx hb hml hown hts hK hZ hW hS [.int (-b19)] (mX3_push (l := l) hZk (-b19) M20 u21 M22 hcu21) pmX3_push tw906 (Wd.recv hK hW (t := 3) (by decide) cz3 (C := RX3) (T := TX3) (N := 10) rfl) ⟨Nat.le_of_ble_eq_true rfl, Nat.le_of_ble_eq_true rfl⟩ rfl hl.1 (Nat.le_of_ble_eq_true rfl) ⟨Nat.le_refl _, Nat.le_refl _⟩ rfl dX3_step_58 (fun H locs hW hS => ?_)
        refine lv_goto (tgt := 112) hx hb dX3_step_61 (by decide) ?_
        exact tb_vretE h hx hb hr hS hW hlk dX3_step_112
    · replace h := sh_f c2 h
      refine lv_aload_n hx hb dX3_step_21 rfl (lv_at hl 1 rfl) ?_
      refine lv_iload_n hx hb dX3_step_22 rfl (lv_at hl 2 rfl) ?_
      replace h := bE_a h
      obtain ⟨u23, M24, hcu23, h⟩ := h
      refine tb_cVV hZk hx hb hml hown hts hK hZ hW hS [.int x1] (mX3_push (l := l) hZk x1 M0 u23 M24 hcu23) pmX3_push tw906 (Wd.recv hK hW (t := 3) (by decide) cz3 (C := RX3) (T := TX3) (N := 10) rfl) ⟨Nat.le_of_ble_eq_true rfl, Nat.le_of_ble_eq_true rfl⟩ rfl hl.1 (Nat.le_of_ble_eq_true rfl) ⟨Nat.le_refl _, Nat.le_refl _⟩ rfl dX3_step_23 (fun H locs hW hS => ?_)
      refine lv_goto (tgt := 112) hx hb dX3_step_26 (by decide) ?_
      exact tb_vretE h hx hb hr hS hW hlk dX3_step_112
  · replace h := sh_f c1 h
    refine va_ldcS hx hb hown (zs11 hZ) dX3_step_4 ?_
    refine lv_iload_n hx hb dX3_step_6 rfl (lv_at hl 1 rfl) ?_
    refine lv_ineg hx hb dX3_step_7 ?_
    refine lv_i2c hx hb dX3_step_8 rfl ?_
    replace h := bd_a h
    obtain ⟨b25, hcb25, h⟩ := h
    refine tb_cVI hZk hx hb hml hown hts hK hZ hW hS [.int (((-x1).toUInt32 % 65536).toInt32)] (mJ0_indexOf_0f7a4 (l := l) hZk 11 (((-x1).toUInt32 % 65536).toInt32) M0 (by decide) b25 hcb25) pmJ0_indexOf_0f7a4 tw833 (tb_Trecv ((hZ.1 _ (by decide)).1) hS) ⟨Nat.le_of_ble_eq_true rfl, Nat.le_of_ble_eq_true rfl⟩ rfl hl.1 (Nat.le_of_ble_eq_true rfl) ⟨Nat.le_refl _, Nat.le_refl _⟩ rfl dX3_step_9 (fun H locs hW hS => ?_)
    refine lv_goto (tgt := 16) hx hb dX3_step_12 (by decide) ?_
    refine lv_istore_n (lv' := [(2, .int b25), (0, .ref (ad 3 0)), (1, .int x1)]) hx hb dX3_step_16 rfl hl (by decide) rfl (fun ls hl => ?_)
    refine lv_iload_n hx hb dX3_step_17 rfl (lv_at hl 2 rfl) ?_
    refine lv_if_lt (tgt := 29) hx hb dX3_step_18 (by decide) (fun c26 => ?_) (fun c26 => ?_)
    · replace h := sh_t c26 h
      refine lv_iload_n hx hb dX3_step_29 rfl (lv_at hl 0 rfl) ?_
      refine lv_if_lt (tgt := 46) hx hb dX3_step_30 (by decide) (fun c27 => ?_) (fun c27 => ?_)
      · replace h := sh_t c27 h
        refine lv_iload_n hx hb dX3_step_46 rfl (lv_at hl 2 rfl) ?_
        refine lv_bipush (v := (-126 : Int32)) hx hb dX3_step_47 (by decide) ?_
        refine lv_icmp_ne (tgt := 64) hx hb dX3_step_49 (by decide) (fun c28 => ?_) (fun c28 => ?_)
        · replace h := sh_f c28 h
          refine lv_iload_n hx hb dX3_step_64 rfl (lv_at hl 2 rfl) ?_
          refine lv_bipush (v := (-33 : Int32)) hx hb dX3_step_65 (by decide) ?_
          refine lv_icmp_ne (tgt := 89) hx hb dX3_step_67 (by decide) (fun c29 => ?_) (fun c29 => ?_)
          · replace h := sh_f c29 h
            refine lv_aload_n hx hb dX3_step_89 rfl (lv_at hl 1 rfl) ?_
            replace h := bE_a h
            obtain ⟨b30, M31, hcb30, h⟩ := h
            refine tb_cVI hZk hx hb hml hown hts hK hZ hW hS [] (mX3_pull (l := l) hZk M0 b30 M31 hcb30) pmX3_pull tw825 (Wd.recv hK hW (t := 3) (by decide) cz3 (C := RX3) (T := TX3) (N := 10) rfl) ⟨Nat.le_of_ble_eq_true rfl, Nat.le_of_ble_eq_true rfl⟩ rfl hl.1 (Nat.le_of_ble_eq_true rfl) ⟨Nat.le_refl _, Nat.le_refl _⟩ rfl dX3_step_90 (fun H locs hW hS => ?_)
            refine lv_istore_n (lv' := [(3, .int b30), (2, .int b25), (0, .ref (ad 3 0)), (1, .int x1)]) hx hb dX3_step_93 rfl hl (by decide) rfl (fun ls hl => ?_)
            refine lv_aload_n hx hb dX3_step_94 rfl (lv_at hl 2 rfl) ?_
            replace h := bE_a h
            obtain ⟨b32, M33, hcb32, h⟩ := h
            refine tb_cVI hZk hx hb hml hown hts hK hZ hW hS [] (mX3_pull (l := l) hZk M31 b32 M33 hcb32) pmX3_pull tw825 (Wd.recv hK hW (t := 3) (by decide) cz3 (C := RX3) (T := TX3) (N := 10) rfl) ⟨Nat.le_of_ble_eq_true rfl, Nat.le_of_ble_eq_true rfl⟩ rfl hl.1 (Nat.le_of_ble_eq_true rfl) ⟨Nat.le_refl _, Nat.le_refl _⟩ rfl dX3_step_95 (fun H locs hW hS => ?_)
            refine lv_istore (lv' := [(4, .int b32), (3, .int b30), (2, .int b25), (0, .ref (ad 3 0)), (1, .int x1)]) hx hb dX3_step_98 hl (by decide) rfl (fun ls hl => ?_)
            refine lv_aload_n hx hb dX3_step_100 rfl (lv_at hl 3 rfl) ?_
            refine lv_iload_n hx hb dX3_step_101 rfl (lv_at hl 4 rfl) ?_
            refine lv_ineg hx hb dX3_step_102 ?_
            refine lv_iload hx hb dX3_step_103 (lv_at hl 0 rfl) ?_
            refine lv_iload_n hx hb dX3_step_105 rfl (lv_at hl 1 rfl) ?_
            replace h := bd_a h
            obtain ⟨b34, hcb34, h⟩ := h
            refine tb_cSI hZk hx hb hml hown hts hK hZ hW hS [.int (-x1), .int b32, .int b30] (mX3_joined (l := l) hZk (-x1) b32 b30 M33 b34 hcb34) pmX3_joined tw910 ⟨Nat.le_of_ble_eq_true rfl, Nat.le_of_ble_eq_true rfl⟩ rfl hl.1 (Nat.le_of_ble_eq_true rfl) ⟨Nat.le_refl _, Nat.le_refl _⟩ rfl dX3_step_106 (fun H locs hW hS => ?_)
            replace h := bE_a h
            obtain ⟨u35, M36, hcu35, h⟩ := h
            refine tb_cVV hZk hx hb hml hown hts hK hZ hW hS [.int b34] (mX3_push (l := l) hZk b34 M33 u35 M36 hcu35) pmX3_push tw906 (Wd.recv hK hW (t := 3) (by decide) cz3 (C := RX3) (T := TX3) (N := 10) rfl) ⟨Nat.le_of_ble_eq_true rfl, Nat.le_of_ble_eq_true rfl⟩ rfl hl.1 (Nat.le_of_ble_eq_true rfl) ⟨Nat.le_refl _, Nat.le_refl _⟩ rfl dX3_step_109 (fun H locs hW hS => ?_)
            exact tb_vretE h hx hb hr hS hW hlk dX3_step_112
          · replace h := sh_t c29 h
            refine lv_aload_n hx hb dX3_step_70 rfl (lv_at hl 1 rfl) ?_
            refine lv_aload_n hx hb dX3_step_71 rfl (lv_at hl 1 rfl) ?_
            replace h := bE_a h
            obtain ⟨b37, M38, hcb37, h⟩ := h
            refine tb_cVI hZk hx hb hml hown hts hK hZ hW hS [] (mX3_pull (l := l) hZk M0 b37 M38 hcb37) pmX3_pull tw825 (Wd.recv hK hW (t := 3) (by decide) cz3 (C := RX3) (T := TX3) (N := 10) rfl) ⟨Nat.le_of_ble_eq_true rfl, Nat.le_of_ble_eq_true rfl⟩ rfl hl.1 (Nat.le_of_ble_eq_true rfl) ⟨Nat.le_refl _, Nat.le_refl _⟩ rfl dX3_step_72 (fun H locs hW hS => ?_)
            refine lv_if_ne (tgt := 82) hx hb dX3_step_75 (by decide) (fun c39 => ?_) (fun c39 => ?_)
            · replace h := sh_f c39 h
              refine lv_iconst (v := (0 : Int32)) hx hb dX3_step_82 (by decide) ?_
              replace h := bE_a h
              obtain ⟨u40, M41, hcu40, h⟩ := h
              refine tb_cVV hZk hx hb hml hown hts hK hZ hW hS [.int (0 : Int32)] (mX3_push (l := l) hZk (0 : Int32) M38 u40 M41 hcu40) pmX3_push tw906 (Wd.recv hK hW (t := 3) (by decide) cz3 (C := RX3) (T := TX3) (N := 10) rfl) ⟨Nat.le_of_ble_eq_true rfl, Nat.le_of_ble_eq_true rfl⟩ rfl hl.1 (Nat.le_of_ble_eq_true rfl) ⟨Nat.le_refl _, Nat.le_refl _⟩ rfl dX3_step_83 (fun H locs hW hS => ?_)
              refine lv_goto (tgt := 112) hx hb dX3_step_86 (by decide) ?_
              exact tb_vretE h hx hb hr hS hW hlk dX3_step_112
            · replace h := sh_t c39 h
              refine lv_iconst (v := (1 : Int32)) hx hb dX3_step_78 (by decide) ?_
              refine lv_goto (tgt := 83) hx hb dX3_step_79 (by decide) ?_
              replace h := bE_a h
              obtain ⟨u42, M43, hcu42, h⟩ := h
              refine tb_cVV hZk hx hb hml hown hts hK hZ hW hS [.int (1 : Int32)] (mX3_push (l := l) hZk (1 : Int32) M38 u42 M43 hcu42) pmX3_push tw906 (Wd.recv hK hW (t := 3) (by decide) cz3 (C := RX3) (T := TX3) (N := 10) rfl) ⟨Nat.le_of_ble_eq_true rfl, Nat.le_of_ble_eq_true rfl⟩ rfl hl.1 (Nat.le_of_ble_eq_true rfl) ⟨Nat.le_refl _, Nat.le_refl _⟩ rfl dX3_step_83 (fun H locs hW hS => ?_)
              refine lv_goto (tgt := 112) hx hb dX3_step_86 (by decide) ?_
              exact tb_vretE h hx hb hr hS hW hlk dX3_step_112
        · replace h := sh_t c28 h
          refine lv_aload_n hx hb dX3_step_52 rfl (lv_at hl 1 rfl) ?_
          refine lv_aload_n hx hb dX3_step_53 rfl (lv_at hl 1 rfl) ?_
          replace h := bE_a h
          obtain ⟨b44, M45, hcb44, h⟩ := h
          refine tb_cVI hZk hx hb hml hown hts hK hZ hW hS [] (mX3_pull (l := l) hZk M0 b44 M45 hcb44) pmX3_pull tw825 (Wd.recv hK hW (t := 3) (by decide) cz3 (C := RX3) (T := TX3) (N := 10) rfl) ⟨Nat.le_of_ble_eq_true rfl, Nat.le_of_ble_eq_true rfl⟩ rfl hl.1 (Nat.le_of_ble_eq_true rfl) ⟨Nat.le_refl _, Nat.le_refl _⟩ rfl dX3_step_54 (fun H locs hW hS => ?_)
          refine lv_ineg hx hb dX3_step_57 ?_
          replace h := bE_a h
          obtain ⟨u46, M47, hcu46, h⟩ := h
          refine tb_cVV hZk hx hb hml hown hts hK hZ hW hS [.int (-b44)] (mX3_push (l := l) hZk (-b44) M45 u46 M47 hcu46) pmX3_push tw906 (Wd.recv hK hW (t := 3) (by decide) cz3 (C := RX3) (T := TX3) (N := 10) rfl) ⟨Nat.le_of_ble_eq_true rfl, Nat.le_of_ble_eq_true rfl⟩ rfl hl.1 (Nat.le_of_ble_eq_true rfl) ⟨Nat.le_refl _, Nat.le_refl _⟩ rfl dX3_step_58 (fun H locs hW hS => ?_)
          refine lv_goto (tgt := 112) hx hb dX3_step_61 (by decide) ?_
          exact tb_vretE h hx hb hr hS hW hlk dX3_step_112
      · replace h := sh_f c27 h
        refine lv_aload_n hx hb dX3_step_33 rfl (lv_at hl 1 rfl) ?_
        refine lv_aload_n hx hb dX3_step_34 rfl (lv_at hl 1 rfl) ?_
        refine gtX3_39 hx hb hts hown hK hW cz3 dX3_step_35 ?_
        refine lv_iload_n hx hb dX3_step_38 rfl (lv_at hl 0 rfl) ?_
        replace h := ix_a h
        obtain ⟨hj, h⟩ := h
        refine al30 hx hb hK hW cz30 hj dX3_step_39 ?_
        replace h := bE_a h
        obtain ⟨u48, M49, hcu48, h⟩ := h
        refine tb_cVV hZk hx hb hml hown hts hK hZ hW hS [.int (mgI M0 3000 0 b25.toNatClampNeg)] (mX3_push (l := l) hZk (mgI M0 3000 0 b25.toNatClampNeg) M0 u48 M49 hcu48) pmX3_push tw906 (Wd.recv hK hW (t := 3) (by decide) cz3 (C := RX3) (T := TX3) (N := 10) rfl) ⟨Nat.le_of_ble_eq_true rfl, Nat.le_of_ble_eq_true rfl⟩ rfl hl.1 (Nat.le_of_ble_eq_true rfl) ⟨Nat.le_refl _, Nat.le_refl _⟩ rfl dX3_step_40 (fun H locs hW hS => ?_)
        refine lv_goto (tgt := 112) hx hb dX3_step_43 (by decide) ?_
        exact tb_vretE h hx hb hr hS hW hlk dX3_step_112
    · replace h := sh_f c26 h
      refine lv_aload_n hx hb dX3_step_21 rfl (lv_at hl 1 rfl) ?_
      refine lv_iload_n hx hb dX3_step_22 rfl (lv_at hl 2 rfl) ?_
      replace h := bE_a h
      obtain ⟨u50, M51, hcu50, h⟩ := h
      refine tb_cVV hZk hx hb hml hown hts hK hZ hW hS [.int x1] (mX3_push (l := l) hZk x1 M0 u50 M51 hcu50) pmX3_push tw906 (Wd.recv hK hW (t := 3) (by decide) cz3 (C := RX3) (T := TX3) (N := 10) rfl) ⟨Nat.le_of_ble_eq_true rfl, Nat.le_of_ble_eq_true rfl⟩ rfl hl.1 (Nat.le_of_ble_eq_true rfl) ⟨Nat.le_refl _, Nat.le_refl _⟩ rfl dX3_step_23 (fun H locs hW hS => ?_)
      refine lv_goto (tgt := 112) hx hb dX3_step_26 (by decide) ?_
      exact tb_vretE h hx hb hr hS hW hlk dX3_step_112
def fX3_workOut_b9 (x1 : Option Nat) (k2 : Int32 → Int32 → Mem → Option (Int32 × Mem)) (i3 : Int32) (i4 : Int32) (M5 : Mem) : Option (Int32 × Mem) :=
  oc x1 none fun a6 => if (mgI M5 1001 a6 0) ≤ i4 then (some ((0 : Int32), M5)) else (ix i4 121 <| nm (mgI M5 4400 a6 i4.toNatClampNeg) fun v8 => if i3 = 0 then (if v8 = (-59 : Int32) then (bE (fX3_pull M5) fun b20 M21 => some (b20, M21)) else (if v8 = (-63 : Int32) then (bE (fX3_pull M5) fun b15 M16 => if b15 = 0 then (nm (i4 + (1 : Int32)) fun v19 => k2 (1 : Int32) v19 M16) else (nm (i4 + (1 : Int32)) fun v18 => k2 (0 : Int32) v18 M16)) else (bE (fX3_step v8 M5) fun u12 M13 => nm (i4 + (1 : Int32)) fun v14 => k2 i3 v14 M13))) else (if v8 = (-59 : Int32) then (nm (i4 + (1 : Int32)) fun v23 => k2 (0 : Int32) v23 M5) else (nm (i4 + (1 : Int32)) fun v24 => k2 (1 : Int32) v24 M5)))
def fX3_workOut_l9 (x1 : Option Nat) : Nat → Int32 → Int32 → Mem → Option (Int32 × Mem)
  | 0, _, _, _ => none
  | n + 1, i3, i4, M5 => fX3_workOut_b9 x1 (fX3_workOut_l9 x1 n) i3 i4 M5
def fX3_workOut (x1 : Option Nat) (M0 : Mem) : Option (Int32 × Mem) :=
  nm (msI M0 307 0 0 (0 : Int32)) fun M1 => fX3_workOut_l9 x1 FU (0 : Int32) (0 : Int32) M1
set_option maxHeartbeats 4000000 in
set_option maxRecDepth 100000 in
theorem mX3_workOut {l : Launch} {D : va_G} {cy : Nat → ClassId} {A : Nat → Prop} {K : KC} {nS nL : Nat} {ad : Nat → Nat → Nat} (hZk : ZOK A (ZC A K)) (x1 : Option Nat) (M0 : Mem) (hx1 : ∀ z, x1 = some z → z < (cnC nS nL) 10) (r : Int32) (M' : Mem) (h : fX3_workOut x1 M0 = some (r, M')) : Met l yX3_workOut (wt yX3_workOut cX3_workOut 5 (some .int)) (rm 5 130) (CPre D cy A (ZC A K) (cnC nS nL) ad M0 [.ref (ad 3 0), rv (ad 10) x1]) (QI D cy A (cnC nS nL) ad r M') 0 0 A := by
  refine tb_start [.ref (ad 3 0), rv (ad 10) x1] [(0, .ref (ad 3 0)), (1, rv (ad 10) x1)] RX3 rfl (by decide +kernel) (by simp [lg_sl, List.flatMap_cons, rv_cat, cat_r, cat_i, cat_l]) (by simp [lv_args, rv_cat, cat_r, cat_i, cat_l]) (fun p e s m args below meth c hx hb hr hml hown hts hlk hW hK hZ ls hl => ?_)
  have hS : va_S A s.heap s.heap [] := va_S.rf
  unfold fX3_workOut at h
  refine lv_iconst (v := (0 : Int32)) hx hb dX3_workOut_0 (by decide) ?_
  refine lv_istore_n (lv' := [(2, .int (0 : Int32)), (0, .ref (ad 3 0)), (1, rv (ad 10) x1)]) hx hb dX3_workOut_1 rfl hl (by decide) (by simp [List.filter, rv_cat]) (fun ls hl => ?_)
  refine lv_aload_n hx hb dX3_workOut_2 rfl (lv_at hl 1 rfl) ?_
  refine lv_iconst (v := (0 : Int32)) hx hb dX3_workOut_3 (by decide) ?_
  refine ptX3_174 hx hb hts hown hK hW hS cz3 dX3_workOut_4 (fun H locs hW hS => ?_)
  obtain ⟨M1, eM1⟩ : ∃ y, y = msI M0 307 0 0 (0 : Int32) := ⟨_, rfl⟩
  replace h := nm_a eM1 h
  rw [← eM1] at hW
  refine lv_iconst (v := (0 : Int32)) hx hb dX3_workOut_7 (by decide) ?_
  refine lv_istore_n (lv' := [(3, .int (0 : Int32)), (2, .int (0 : Int32)), (0, .ref (ad 3 0)), (1, rv (ad 10) x1)]) hx hb dX3_workOut_8 rfl hl (by decide) rfl (fun ls hl => ?_)
  have L2 : ∀ (n2 : Nat) (i3 : Int32) (i4 : Int32) (M5 : Mem) (H : Heap) (locs : List Loc) (ls : Array Slot), Wd D cy A (cnC nS nL) ad M5 H → va_S A s.heap H locs → lv_has ls 5 [(0, .ref (ad 3 0)), (1, rv (ad 10) x1), (2, .int i3), (3, .int i4)] → fX3_workOut_l9 x1 n2 i3 i4 M5 = some (r, M') → W p l e (rm 5 130) s m args below meth c H locs 0 0 (MQ below (QI D cy A (cnC nS nL) ad r M') args s 0 0 A) (F0 m 9 ls []) := by
    intro n2
    induction n2 with
    | zero => intro i3 i4 M5 H locs ls hW hS hl h; cases h
    | succ n2 ih2 =>
      intro i3 i4 M5 H locs ls hW hS hl h
      unfold fX3_workOut_l9 fX3_workOut_b9 at h
      refine lv_iload_n hx hb dX3_workOut_9 rfl (lv_at hl 3 rfl) ?_
      refine tb_aload_n hx hb dX3_workOut_10 rfl (lv_at hl 1 rfl) ?_
      replace h := oc_d h
      obtain ⟨a6, ea6, h⟩ := h
      subst ea6
      have la6 := hx1 _ rfl
      refine gtX3_127 hx hb hts hown hK hW la6 dX3_workOut_11 ?_
      refine lv_icmp_ge (tgt := 92) hx hb dX3_workOut_14 (by decide) (fun c7 => ?_) (fun c7 => ?_)
      · replace h := sh_t c7 h
        refine lv_iconst (v := (0 : Int32)) hx hb dX3_workOut_92 (by decide) ?_
        exact tb_iretE h hx hb hr hS hW hlk dX3_workOut_93
      · replace h := sh_f c7 h
        refine lv_aload_n hx hb dX3_workOut_17 rfl (lv_at hl 1 rfl) ?_
        refine gtX3_177 hx hb hts hown hK hW la6 dX3_workOut_18 ?_
        refine lv_iload_n hx hb dX3_workOut_21 rfl (lv_at hl 3 rfl) ?_
        replace h := ix_a h
        obtain ⟨hj, h⟩ := h
        refine al44 hx hb hK hW la6 hj dX3_workOut_22 ?_
        refine lv_topi (fun v8 ev8 => ?_)
        replace h := nm_a ev8 h
        refine lv_istore (lv' := [(4, .int v8), (0, .ref (ad 3 0)), (1, .ref (ad 10 a6)), (2, .int i3), (3, .int i4)]) hx hb dX3_workOut_23 hl (by decide) rfl (fun ls hl => ?_)
        refine lv_iload_n hx hb dX3_workOut_25 rfl (lv_at hl 3 rfl) ?_
        refine lv_if_eq (tgt := 45) hx hb dX3_workOut_26 (by decide) (fun c9 => ?_) (fun c9 => ?_)
        · replace h := sh_t c9 h
          refine lv_iload hx hb dX3_workOut_45 (lv_at hl 0 rfl) ?_
          refine lv_bipush (v := (-59 : Int32)) hx hb dX3_workOut_47 (by decide) ?_
          refine lv_icmp_ne (tgt := 57) hx hb dX3_workOut_49 (by decide) (fun c10 => ?_) (fun c10 => ?_)
          · replace h := sh_f c10 h
            refine lv_iload hx hb dX3_workOut_57 (lv_at hl 0 rfl) ?_
            refine lv_bipush (v := (-63 : Int32)) hx hb dX3_workOut_59 (by decide) ?_
            refine lv_icmp_ne (tgt := 80) hx hb dX3_workOut_61 (by decide) (fun c11 => ?_) (fun c11 => ?_)
            · replace h := sh_f c11 h
              refine lv_aload_n hx hb dX3_workOut_80 rfl (lv_at hl 1 rfl) ?_
              refine lv_iload hx hb dX3_workOut_81 (lv_at hl 0 rfl) ?_
              replace h := bE_a h
              obtain ⟨u12, M13, hcu12, h⟩ := h
              refine tb_cVV hZk hx hb hml hown hts hK hZ hW hS [.int v8] (mX3_step (l := l) hZk v8 M5 u12 M13 hcu12) pmX3_step tw829 (Wd.recv hK hW (t := 3) (by decide) cz3 (C := RX3) (T := TX3) (N := 10) rfl) ⟨Nat.le_of_ble_eq_true rfl, Nat.le_of_ble_eq_true rfl⟩ rfl hl.1 (Nat.le_of_ble_eq_true rfl) ⟨Nat.le_refl _, Nat.le_refl _⟩ rfl dX3_workOut_83 (fun H locs hW hS => ?_)
              obtain ⟨v14, ev14⟩ : ∃ y : Int32, y = i4 + (1 : Int32) := ⟨_, rfl⟩
              replace h := nm_a ev14 h
              refine lv_iinc (v := v14) (lv' := [(3, .int v14), (4, .int v8), (0, .ref (ad 3 0)), (1, .ref (ad 10 a6)), (2, .int i3)]) hx hb dX3_workOut_86 hl (k := 4) rfl (by rw [ev14]; rfl) (by decide) rfl (fun ls hl => ?_)
              refine lv_goto (tgt := 9) hx hb dX3_workOut_89 (by decide) ?_
              exact ih2 i3 v14 M13 _ _ _ hW hS (lv_sub hl [2, 3, 4, 0] rfl) h
            · replace h := sh_t c11 h
              refine lv_aload_n hx hb dX3_workOut_64 rfl (lv_at hl 1 rfl) ?_
              replace h := bE_a h
              obtain ⟨b15, M16, hcb15, h⟩ := h
              refine tb_cVI hZk hx hb hml hown hts hK hZ hW hS [] (mX3_pull (l := l) hZk M5 b15 M16 hcb15) pmX3_pull tw825 (Wd.recv hK hW (t := 3) (by decide) cz3 (C := RX3) (T := TX3) (N := 10) rfl) ⟨Nat.le_of_ble_eq_true rfl, Nat.le_of_ble_eq_true rfl⟩ rfl hl.1 (Nat.le_of_ble_eq_true rfl) ⟨Nat.le_refl _, Nat.le_refl _⟩ rfl dX3_workOut_65 (fun H locs hW hS => ?_)
              refine lv_if_ne (tgt := 75) hx hb dX3_workOut_68 (by decide) (fun c17 => ?_) (fun c17 => ?_)
              · replace h := sh_f c17 h
                refine lv_iconst (v := (0 : Int32)) hx hb dX3_workOut_75 (by decide) ?_
                refine lv_istore_n (lv' := [(2, .int (0 : Int32)), (4, .int v8), (0, .ref (ad 3 0)), (1, .ref (ad 10 a6)), (3, .int i4)]) hx hb dX3_workOut_76 rfl hl (by decide) rfl (fun ls hl => ?_)
                refine lv_goto (tgt := 86) hx hb dX3_workOut_77 (by decide) ?_
                obtain ⟨v18, ev18⟩ : ∃ y : Int32, y = i4 + (1 : Int32) := ⟨_, rfl⟩
                replace h := nm_a ev18 h
                refine lv_iinc (v := v18) (lv' := [(3, .int v18), (2, .int (0 : Int32)), (4, .int v8), (0, .ref (ad 3 0)), (1, .ref (ad 10 a6))]) hx hb dX3_workOut_86 hl (k := 4) rfl (by rw [ev18]; rfl) (by decide) rfl (fun ls hl => ?_)
                refine lv_goto (tgt := 9) hx hb dX3_workOut_89 (by decide) ?_
                exact ih2 (0 : Int32) v18 M16 _ _ _ hW hS (lv_sub hl [3, 4, 1, 0] rfl) h
              · replace h := sh_t c17 h
                refine lv_iconst (v := (1 : Int32)) hx hb dX3_workOut_71 (by decide) ?_
                refine lv_goto (tgt := 76) hx hb dX3_workOut_72 (by decide) ?_
                refine lv_istore_n (lv' := [(2, .int (1 : Int32)), (4, .int v8), (0, .ref (ad 3 0)), (1, .ref (ad 10 a6)), (3, .int i4)]) hx hb dX3_workOut_76 rfl hl (by decide) rfl (fun ls hl => ?_)
                refine lv_goto (tgt := 86) hx hb dX3_workOut_77 (by decide) ?_
                obtain ⟨v19, ev19⟩ : ∃ y : Int32, y = i4 + (1 : Int32) := ⟨_, rfl⟩
                replace h := nm_a ev19 h
                refine lv_iinc (v := v19) (lv' := [(3, .int v19), (2, .int (1 : Int32)), (4, .int v8), (0, .ref (ad 3 0)), (1, .ref (ad 10 a6))]) hx hb dX3_workOut_86 hl (k := 4) rfl (by rw [ev19]; rfl) (by decide) rfl (fun ls hl => ?_)
                refine lv_goto (tgt := 9) hx hb dX3_workOut_89 (by decide) ?_
                exact ih2 (1 : Int32) v19 M16 _ _ _ hW hS (lv_sub hl [3, 4, 1, 0] rfl) h
          · replace h := sh_t c10 h
            refine lv_aload_n hx hb dX3_workOut_52 rfl (lv_at hl 1 rfl) ?_
            replace h := bE_a h
            obtain ⟨b20, M21, hcb20, h⟩ := h
            refine tb_cVI hZk hx hb hml hown hts hK hZ hW hS [] (mX3_pull (l := l) hZk M5 b20 M21 hcb20) pmX3_pull tw825 (Wd.recv hK hW (t := 3) (by decide) cz3 (C := RX3) (T := TX3) (N := 10) rfl) ⟨Nat.le_of_ble_eq_true rfl, Nat.le_of_ble_eq_true rfl⟩ rfl hl.1 (Nat.le_of_ble_eq_true rfl) ⟨Nat.le_refl _, Nat.le_refl _⟩ rfl dX3_workOut_53 (fun H locs hW hS => ?_)
            exact tb_iretE h hx hb hr hS hW hlk dX3_workOut_56
        · replace h := sh_f c9 h
          refine lv_iload hx hb dX3_workOut_29 (lv_at hl 0 rfl) ?_
          refine lv_bipush (v := (-59 : Int32)) hx hb dX3_workOut_31 (by decide) ?_
          refine lv_icmp_eq (tgt := 40) hx hb dX3_workOut_33 (by decide) (fun c22 => ?_) (fun c22 => ?_)
          · replace h := sh_t c22 h
            refine lv_iconst (v := (0 : Int32)) hx hb dX3_workOut_40 (by decide) ?_
            refine lv_istore_n (lv' := [(2, .int (0 : Int32)), (4, .int v8), (0, .ref (ad 3 0)), (1, .ref (ad 10 a6)), (3, .int i4)]) hx hb dX3_workOut_41 rfl hl (by decide) rfl (fun ls hl => ?_)
            refine lv_goto (tgt := 86) hx hb dX3_workOut_42 (by decide) ?_
            obtain ⟨v23, ev23⟩ : ∃ y : Int32, y = i4 + (1 : Int32) := ⟨_, rfl⟩
            replace h := nm_a ev23 h
            refine lv_iinc (v := v23) (lv' := [(3, .int v23), (2, .int (0 : Int32)), (4, .int v8), (0, .ref (ad 3 0)), (1, .ref (ad 10 a6))]) hx hb dX3_workOut_86 hl (k := 4) rfl (by rw [ev23]; rfl) (by decide) rfl (fun ls hl => ?_)
            refine lv_goto (tgt := 9) hx hb dX3_workOut_89 (by decide) ?_
            exact ih2 (0 : Int32) v23 M5 _ _ _ hW hS (lv_sub hl [3, 4, 1, 0] rfl) h
          · replace h := sh_f c22 h
            refine lv_iconst (v := (1 : Int32)) hx hb dX3_workOut_36 (by decide) ?_
            refine lv_goto (tgt := 41) hx hb dX3_workOut_37 (by decide) ?_
            refine lv_istore_n (lv' := [(2, .int (1 : Int32)), (4, .int v8), (0, .ref (ad 3 0)), (1, .ref (ad 10 a6)), (3, .int i4)]) hx hb dX3_workOut_41 rfl hl (by decide) rfl (fun ls hl => ?_)
            refine lv_goto (tgt := 86) hx hb dX3_workOut_42 (by decide) ?_
            obtain ⟨v24, ev24⟩ : ∃ y : Int32, y = i4 + (1 : Int32) := ⟨_, rfl⟩
            replace h := nm_a ev24 h
            refine lv_iinc (v := v24) (lv' := [(3, .int v24), (2, .int (1 : Int32)), (4, .int v8), (0, .ref (ad 3 0)), (1, .ref (ad 10 a6))]) hx hb dX3_workOut_86 hl (k := 4) rfl (by rw [ev24]; rfl) (by decide) rfl (fun ls hl => ?_)
            refine lv_goto (tgt := 9) hx hb dX3_workOut_89 (by decide) ?_
            exact ih2 (1 : Int32) v24 M5 _ _ _ hW hS (lv_sub hl [3, 4, 1, 0] rfl) h
  exact L2 FU (0 : Int32) (0 : Int32) M1 _ _ _ hW hS (lv_sub hl [2, 3, 1, 0] rfl) h
def fX3_oddsOf (x1 : Option Nat) (x2 : Int32) (M0 : Mem) : Option (Int32 × Mem) :=
  if x2 = 0 then (if (mgI M0 1001 0 0) = 0 then (if x2 = 0 then (some ((100 : Int32), M0)) else (some ((0 : Int32), M0))) else (bE (fX3_know x1 M0) fun u9 M10 => bE (fX3_workOut (some 0) M10) fun b11 M12 => some (if (0 : Int32) < (if b11 < (1000 : Int32) then b11 else (1000 : Int32)) then (if b11 < (1000 : Int32) then b11 else (1000 : Int32)) else (0 : Int32), M12))) else (if (mgI M0 1001 1 0) = 0 then (if x2 = 0 then (some ((100 : Int32), M0)) else (some ((0 : Int32), M0))) else (bE (fX3_know x1 M0) fun u3 M4 => bE (fX3_workOut (some 1) M4) fun b5 M6 => some (if (0 : Int32) < (if b5 < (1000 : Int32) then b5 else (1000 : Int32)) then (if b5 < (1000 : Int32) then b5 else (1000 : Int32)) else (0 : Int32), M6)))
set_option maxHeartbeats 4000000 in
set_option maxRecDepth 100000 in
theorem mX3_oddsOf {l : Launch} {D : va_G} {cy : Nat → ClassId} {A : Nat → Prop} {K : KC} {nS nL : Nat} {ad : Nat → Nat → Nat} (hZk : ZOK A (ZC A K)) (x1 : Option Nat) (x2 : Int32) (M0 : Mem) (hx1 : ∀ z, x1 = some z → z < (cnC nS nL) 8) (r : Int32) (M' : Mem) (h : fX3_oddsOf x1 x2 M0 = some (r, M')) : Met l yX3_oddsOf (wt yX3_oddsOf cX3_oddsOf 4 (some .int)) (rm 6 154) (CPre D cy A (ZC A K) (cnC nS nL) ad M0 [.ref (ad 3 0), rv (ad 8) x1, .int x2]) (QI D cy A (cnC nS nL) ad r M') 0 0 A := by
  refine tb_start [.ref (ad 3 0), rv (ad 8) x1, .int x2] [(0, .ref (ad 3 0)), (1, rv (ad 8) x1), (2, .int x2)] RX3 rfl (by decide +kernel) (by simp [lg_sl, List.flatMap_cons, rv_cat, cat_r, cat_i, cat_l]) (by simp [lv_args, rv_cat, cat_r, cat_i, cat_l]) (fun p e s m args below meth c hx hb hr hml hown hts hlk hW hK hZ ls hl => ?_)
  have hS : va_S A s.heap s.heap [] := va_S.rf
  unfold fX3_oddsOf at h
  refine lv_iload_n hx hb dX3_oddsOf_0 rfl (lv_at hl 2 rfl) ?_
  refine lv_if_ne (tgt := 11) hx hb dX3_oddsOf_1 (by decide) (fun c1 => ?_) (fun c1 => ?_)
  · replace h := sh_f c1 h
    refine lv_aload_n hx hb dX3_oddsOf_11 rfl (lv_at hl 0 rfl) ?_
    refine gtX3_18 hx hb hts hown hK hW cz3 dX3_oddsOf_12 ?_
    refine lv_astore_n (lv' := [(3, .ref (ad 10 1)), (0, .ref (ad 3 0)), (1, rv (ad 8) x1), (2, .int x2)]) hx hb dX3_oddsOf_15 rfl hl (by decide) rfl (fun ls hl => ?_)
    refine lv_aload_n hx hb dX3_oddsOf_16 rfl (lv_at hl 0 rfl) ?_
    refine gtX3_127 hx hb hts hown hK hW cz10_1 dX3_oddsOf_17 ?_
    refine lv_if_ne (tgt := 34) hx hb dX3_oddsOf_20 (by decide) (fun c2 => ?_) (fun c2 => ?_)
    · replace h := sh_f c2 h
      refine lv_aload_n hx hb dX3_oddsOf_34 rfl (lv_at hl 1 rfl) ?_
      refine tb_aload_n hx hb dX3_oddsOf_35 rfl (lv_at hl 2 rfl) ?_
      replace h := bE_a h
      obtain ⟨u3, M4, hcu3, h⟩ := h
      refine tb_cVV hZk hx hb hml hown hts hK hZ hW hS [rv (ad 8) x1] (mX3_know (l := l) hZk x1 M0 hx1 u3 M4 hcu3) pmX3_know tw801 (Wd.recv hK hW (t := 3) (by decide) cz3 (C := RX3) (T := TX3) (N := 10) rfl) ⟨Nat.le_of_ble_eq_true rfl, Nat.le_of_ble_eq_true rfl⟩ rfl hl.1 (Nat.le_of_ble_eq_true rfl) ⟨Nat.le_refl _, Nat.le_refl _⟩ rfl dX3_oddsOf_36 (fun H locs hW hS => ?_)
      refine lv_iconst (v := (0 : Int32)) hx hb dX3_oddsOf_39 (by decide) ?_
      refine lv_sipush (v := (1000 : Int32)) hx hb dX3_oddsOf_40 (by decide) ?_
      refine lv_aload_n hx hb dX3_oddsOf_43 rfl (lv_at hl 1 rfl) ?_
      refine lv_aload_n hx hb dX3_oddsOf_44 rfl (lv_at hl 0 rfl) ?_
      replace h := bE_a h
      obtain ⟨b5, M6, hcb5, h⟩ := h
      refine tb_cVI hZk hx hb hml hown hts hK hZ hW hS [.ref (ad 10 1)] (mX3_workOut (l := l) hZk (some 1) M4 (fun z hz => Option.some.inj hz ▸ cz10_1) b5 M6 hcb5) pmX3_workOut tw821 (Wd.recv hK hW (t := 3) (by decide) cz3 (C := RX3) (T := TX3) (N := 10) rfl) ⟨Nat.le_of_ble_eq_true rfl, Nat.le_of_ble_eq_true rfl⟩ rfl hl.1 (Nat.le_of_ble_eq_true rfl) ⟨Nat.le_refl _, Nat.le_refl _⟩ rfl dX3_oddsOf_45 (fun H locs hW hS => ?_)
      refine va_mmin hx hb (hml.trans hl.1.symm) hown (hts _ tw806) (hts _ tw807) (hts _ tw91) (hts _ tw808) (Nat.le_of_ble_eq_true rfl) (by show _ ≤ _; exact Nat.le_of_ble_eq_true rfl) (Nat.le_refl _) (Nat.le_refl _) dX3_oddsOf_48 ?_
      refine va_mmax hx hb (hml.trans hl.1.symm) hown (hts _ tw805) (hts _ tw656) (hts _ tw91) (hts _ tw657) (Nat.le_of_ble_eq_true rfl) (by show _ ≤ _; exact Nat.le_of_ble_eq_true rfl) (Nat.le_refl _) (Nat.le_refl _) dX3_oddsOf_51 ?_
      exact tb_iretE h hx hb hr hS hW hlk dX3_oddsOf_54
    · replace h := sh_t c2 h
      refine lv_iload_n hx hb dX3_oddsOf_23 rfl (lv_at hl 3 rfl) ?_
      refine lv_if_ne (tgt := 32) hx hb dX3_oddsOf_24 (by decide) (fun c7 => ?_) (fun c7 => ?_)
      · replace h := sh_f c7 h
        refine lv_iconst (v := (0 : Int32)) hx hb dX3_oddsOf_32 (by decide) ?_
        exact tb_iretE h hx hb hr hS hW hlk dX3_oddsOf_33
      · replace h := sh_t c7 h
        refine lv_bipush (v := (100 : Int32)) hx hb dX3_oddsOf_27 (by decide) ?_
        refine lv_goto (tgt := 33) hx hb dX3_oddsOf_29 (by decide) ?_
        exact tb_iretE h hx hb hr hS hW hlk dX3_oddsOf_33
  · replace h := sh_t c1 h
    refine lv_aload_n hx hb dX3_oddsOf_4 rfl (lv_at hl 0 rfl) ?_
    refine gtX3_12 hx hb hts hown hK hW cz3 dX3_oddsOf_5 ?_
    refine lv_goto (tgt := 15) hx hb dX3_oddsOf_8 (by decide) ?_
    refine lv_astore_n (lv' := [(3, .ref (ad 10 0)), (0, .ref (ad 3 0)), (1, rv (ad 8) x1), (2, .int x2)]) hx hb dX3_oddsOf_15 rfl hl (by decide) rfl (fun ls hl => ?_)
    refine lv_aload_n hx hb dX3_oddsOf_16 rfl (lv_at hl 0 rfl) ?_
    refine gtX3_127 hx hb hts hown hK hW cz10 dX3_oddsOf_17 ?_
    refine lv_if_ne (tgt := 34) hx hb dX3_oddsOf_20 (by decide) (fun c8 => ?_) (fun c8 => ?_)
    · replace h := sh_f c8 h
      refine lv_aload_n hx hb dX3_oddsOf_34 rfl (lv_at hl 1 rfl) ?_
      refine tb_aload_n hx hb dX3_oddsOf_35 rfl (lv_at hl 2 rfl) ?_
      replace h := bE_a h
      obtain ⟨u9, M10, hcu9, h⟩ := h
      refine tb_cVV hZk hx hb hml hown hts hK hZ hW hS [rv (ad 8) x1] (mX3_know (l := l) hZk x1 M0 hx1 u9 M10 hcu9) pmX3_know tw801 (Wd.recv hK hW (t := 3) (by decide) cz3 (C := RX3) (T := TX3) (N := 10) rfl) ⟨Nat.le_of_ble_eq_true rfl, Nat.le_of_ble_eq_true rfl⟩ rfl hl.1 (Nat.le_of_ble_eq_true rfl) ⟨Nat.le_refl _, Nat.le_refl _⟩ rfl dX3_oddsOf_36 (fun H locs hW hS => ?_)
      refine lv_iconst (v := (0 : Int32)) hx hb dX3_oddsOf_39 (by decide) ?_
      refine lv_sipush (v := (1000 : Int32)) hx hb dX3_oddsOf_40 (by decide) ?_
      refine lv_aload_n hx hb dX3_oddsOf_43 rfl (lv_at hl 1 rfl) ?_
      refine lv_aload_n hx hb dX3_oddsOf_44 rfl (lv_at hl 0 rfl) ?_
      replace h := bE_a h
      obtain ⟨b11, M12, hcb11, h⟩ := h
      refine tb_cVI hZk hx hb hml hown hts hK hZ hW hS [.ref (ad 10 0)] (mX3_workOut (l := l) hZk (some 0) M10 (fun z hz => Option.some.inj hz ▸ cz10) b11 M12 hcb11) pmX3_workOut tw821 (Wd.recv hK hW (t := 3) (by decide) cz3 (C := RX3) (T := TX3) (N := 10) rfl) ⟨Nat.le_of_ble_eq_true rfl, Nat.le_of_ble_eq_true rfl⟩ rfl hl.1 (Nat.le_of_ble_eq_true rfl) ⟨Nat.le_refl _, Nat.le_refl _⟩ rfl dX3_oddsOf_45 (fun H locs hW hS => ?_)
      refine va_mmin hx hb (hml.trans hl.1.symm) hown (hts _ tw806) (hts _ tw807) (hts _ tw91) (hts _ tw808) (Nat.le_of_ble_eq_true rfl) (by show _ ≤ _; exact Nat.le_of_ble_eq_true rfl) (Nat.le_refl _) (Nat.le_refl _) dX3_oddsOf_48 ?_
      refine va_mmax hx hb (hml.trans hl.1.symm) hown (hts _ tw805) (hts _ tw656) (hts _ tw91) (hts _ tw657) (Nat.le_of_ble_eq_true rfl) (by show _ ≤ _; exact Nat.le_of_ble_eq_true rfl) (Nat.le_refl _) (Nat.le_refl _) dX3_oddsOf_51 ?_
      exact tb_iretE h hx hb hr hS hW hlk dX3_oddsOf_54
    · replace h := sh_t c8 h
      refine lv_iload_n hx hb dX3_oddsOf_23 rfl (lv_at hl 3 rfl) ?_
      refine lv_if_ne (tgt := 32) hx hb dX3_oddsOf_24 (by decide) (fun c13 => ?_) (fun c13 => ?_)
      · replace h := sh_f c13 h
        refine lv_iconst (v := (0 : Int32)) hx hb dX3_oddsOf_32 (by decide) ?_
        exact tb_iretE h hx hb hr hS hW hlk dX3_oddsOf_33
      · replace h := sh_t c13 h
        refine lv_bipush (v := (100 : Int32)) hx hb dX3_oddsOf_27 (by decide) ?_
        refine lv_goto (tgt := 33) hx hb dX3_oddsOf_29 (by decide) ?_
        exact tb_iretE h hx hb hr hS hW hlk dX3_oddsOf_33
def fX5_reachFrom_b23 (i2 : Int32) (M3 : Mem) (k1 : Int32 → Mem → Option (Unit × Mem)) (k8 : Int64 → (Option Nat) → Option (Unit × Mem)) (j9 : Int64) (o10 : Option Nat) : Option (Unit × Mem) :=
  oc o10 (ix i2 64 <| nm (mgR M3 3200 0 i2.toNatClampNeg) fun o12 => oc o12 none fun a13 => nm (msL M3 815 a13 0 j9) fun M14 => nm (i2 + (1 : Int32)) fun v15 => k1 v15 M14) fun a11 => if (mgI M3 405 a11 0) = 0 then (ix (mgI M3 401 a11 0) 64 <| nm (mgR M3 3200 0 (mgI M3 401 a11 0).toNatClampNeg) fun o18 => oc o18 none fun a19 => nm (j9 ||| ((fX11_bit (mgI M3 401 a11 0)) ||| (mgL M3 815 a19 0))) fun v20 => nm (mgR M3 402 a11 0) fun o21 => k8 v20 o21) else (nm (mgR M3 402 a11 0) fun o17 => k8 j9 o17)
def fX5_reachFrom_l23 (i2 : Int32) (M3 : Mem) (k1 : Int32 → Mem → Option (Unit × Mem)) : Nat → Int64 → (Option Nat) → Option (Unit × Mem)
  | 0, _, _ => none
  | n + 1, j9, o10 => fX5_reachFrom_b23 i2 M3 k1 (fX5_reachFrom_l23 i2 M3 k1 n) j9 o10
def fX5_reachFrom_b2 (k1 : Int32 → Mem → Option (Unit × Mem)) (i2 : Int32) (M3 : Mem) : Option (Unit × Mem) :=
  if (mgI M3 502 0 0) ≤ i2 then (some ((), M3)) else (ix i2 64 <| nm (mgR M3 3200 0 i2.toNatClampNeg) fun o5 => oc o5 none fun a6 => nm (mgR M3 813 a6 0) fun o7 => fX5_reachFrom_l23 i2 M3 k1 FU (0 : Int64) o7)
def fX5_reachFrom_l2 : Nat → Int32 → Mem → Option (Unit × Mem)
  | 0, _, _ => none
  | n + 1, i2, M3 => fX5_reachFrom_b2 (fX5_reachFrom_l2 n) i2 M3
def fX5_reachFrom (x1 : Int32) (M0 : Mem) : Option (Unit × Mem) :=
  fX5_reachFrom_l2 FU x1 M0
set_option maxHeartbeats 4000000 in
set_option maxRecDepth 100000 in
theorem mX5_reachFrom {l : Launch} {D : va_G} {cy : Nat → ClassId} {A : Nat → Prop} {K : KC} {nS nL : Nat} {ad : Nat → Nat → Nat} (hZk : ZOK A (ZC A K)) (x1 : Int32) (M0 : Mem) (r : Unit) (M' : Mem) (h : fX5_reachFrom x1 M0 = some (r, M')) : Met l yX5_reachFrom (wt yX5_reachFrom cX5_reachFrom 6 none) (rm 1 20) (CPre D cy A (ZC A K) (cnC nS nL) ad M0 [.ref (ad 5 0), .int x1]) (QV D cy A (cnC nS nL) ad r M') 0 0 A := by
  refine tb_start [.ref (ad 5 0), .int x1] [(0, .ref (ad 5 0)), (1, .int x1)] RX5 rfl (by decide +kernel) (Nat.le_of_ble_eq_true rfl) rfl (fun p e s m args below meth c hx hb hr hml hown hts hlk hW hK hZ ls hl => ?_)
  have hS : va_S A s.heap s.heap [] := va_S.rf
  unfold fX5_reachFrom at h
  refine lv_iload_n hx hb dX5_reachFrom_0 rfl (lv_at hl 1 rfl) ?_
  refine lv_istore_n (lv' := [(2, .int x1), (0, .ref (ad 5 0)), (1, .int x1)]) hx hb dX5_reachFrom_1 rfl hl (by decide) rfl (fun ls hl => ?_)
  have L1 : ∀ (n1 : Nat) (i2 : Int32) (M3 : Mem) (H : Heap) (locs : List Loc) (ls : Array Slot), Wd D cy A (cnC nS nL) ad M3 H → va_S A s.heap H locs → lv_has ls 6 [(0, .ref (ad 5 0)), (2, .int i2)] → fX5_reachFrom_l2 n1 i2 M3 = some (r, M') → W p l e (rm 1 20) s m args below meth c H locs 0 0 (MQ below (QV D cy A (cnC nS nL) ad r M') args s 0 0 A) (F0 m 2 ls []) := by
    intro n1
    induction n1 with
    | zero => intro i2 M3 H locs ls hW hS hl h; cases h
    | succ n1 ih1 =>
      intro i2 M3 H locs ls hW hS hl h
      unfold fX5_reachFrom_l2 fX5_reachFrom_b2 at h
      refine lv_iload_n hx hb dX5_reachFrom_2 rfl (lv_at hl 1 rfl) ?_
      refine lv_aload_n hx hb dX5_reachFrom_3 rfl (lv_at hl 0 rfl) ?_
      refine gtX5_27 hx hb hts hown hK hW cz5 dX5_reachFrom_4 ?_
      refine lv_icmp_ge (tgt := 87) hx hb dX5_reachFrom_7 (by decide) (fun c4 => ?_) (fun c4 => ?_)
      · replace h := sh_t c4 h
        exact tb_vretE h hx hb hr hS hW hlk dX5_reachFrom_87
      · replace h := sh_f c4 h
        refine lv_lconst (v := (0 : Int64)) hx hb dX5_reachFrom_10 (by decide) ?_
        refine lv_lstore_n (lv' := [(3, .long (0 : Int64)), (0, .ref (ad 5 0)), (2, .int i2)]) hx hb dX5_reachFrom_11 rfl hl (by decide) rfl (fun ls hl => ?_)
        refine lv_aload_n hx hb dX5_reachFrom_12 rfl (lv_at hl 1 rfl) ?_
        refine gtX5_11 hx hb hts hown hK hW cz5 dX5_reachFrom_13 ?_
        refine lv_iload_n hx hb dX5_reachFrom_16 rfl (lv_at hl 2 rfl) ?_
        replace h := ix_a h
        obtain ⟨hj, h⟩ := h
        refine al32 hx hb hK hW cz32 hj dX5_reachFrom_17 (fun o5 eo5 ho5 => ?_)
        replace h := nm_a eo5 h
        replace h := oc_d h
        obtain ⟨a6, ea6, h⟩ := h
        subst ea6
        have la6 := ho5 _ rfl
        refine gtX5_54 hx hb hts hown hK hW la6 dX5_reachFrom_18 ?_
        refine tb_topr (fun o7 eo7 => ?_)
        replace h := nm_a eo7 h
        have ho7 : ∀ z, o7 = some z → z < (cnC nS nL) 4 := fun z hz => hW.ref 1 rfl (eo7.symm.trans hz)
        refine tb_astore (lv' := [(5, rv (ad 4) o7), (3, .long (0 : Int64)), (0, .ref (ad 5 0)), (2, .int i2)]) hx hb dX5_reachFrom_21 hl (by decide) rfl (fun ls hl => ?_)
        have L8 : ∀ (n8 : Nat) (j9 : Int64) (o10 : Option Nat) (H : Heap) (locs : List Loc) (ls : Array Slot), Wd D cy A (cnC nS nL) ad M3 H → va_S A s.heap H locs → lv_has ls 6 [(0, .ref (ad 5 0)), (2, .int i2), (3, .long j9), (5, rv (ad 4) o10)] → (∀ z, o10 = some z → z < (cnC nS nL) 4) → fX5_reachFrom_l23 i2 M3 (fX5_reachFrom_l2 n1) n8 j9 o10 = some (r, M') → W p l e (rm 1 20) s m args below meth c H locs 0 0 (MQ below (QV D cy A (cnC nS nL) ad r M') args s 0 0 A) (F0 m 23 ls []) := by
          intro n8
          induction n8 with
          | zero => intro j9 o10 H locs ls hW hS hl ho10 h; cases h
          | succ n8 ih8 =>
            intro j9 o10 H locs ls hW hS hl ho10 h
            unfold fX5_reachFrom_l23 fX5_reachFrom_b23 at h
            refine tb_aload hx hb dX5_reachFrom_23 (lv_at hl 3 rfl) ?_
            refine tb_ifnull (tgt := 71) hx hb dX5_reachFrom_25 (by decide) (fun e0 => ?_) (fun a11 ea11 => ?_)
            · replace h := oc_n e0 h
              subst e0
              refine lv_aload_n hx hb dX5_reachFrom_71 rfl (lv_at hl 0 rfl) ?_
              refine gtX5_11 hx hb hts hown hK hW cz5 dX5_reachFrom_72 ?_
              refine lv_iload_n hx hb dX5_reachFrom_75 rfl (lv_at hl 1 rfl) ?_
              replace h := ix_a h
              obtain ⟨hj, h⟩ := h
              refine al32 hx hb hK hW cz32 hj dX5_reachFrom_76 (fun o12 eo12 ho12 => ?_)
              replace h := nm_a eo12 h
              refine lv_lload_n hx hb dX5_reachFrom_77 rfl (lv_at hl 2 rfl) ?_
              replace h := oc_d h
              obtain ⟨a13, ea13, h⟩ := h
              subst ea13
              have la13 := ho12 _ rfl
              refine ptX5_76 hx hb hts hown hK hW hS la13 dX5_reachFrom_78 (fun H locs hW hS => ?_)
              obtain ⟨M14, eM14⟩ : ∃ y, y = msL M3 815 a13 0 j9 := ⟨_, rfl⟩
              replace h := nm_a eM14 h
              rw [← eM14] at hW
              obtain ⟨v15, ev15⟩ : ∃ y : Int32, y = i2 + (1 : Int32) := ⟨_, rfl⟩
              replace h := nm_a ev15 h
              refine lv_iinc (v := v15) (lv' := [(2, .int v15), (0, .ref (ad 5 0)), (3, .long j9), (5, .null)]) hx hb dX5_reachFrom_81 hl (k := 1) rfl (by rw [ev15]; rfl) (by decide) rfl (fun ls hl => ?_)
              refine lv_goto (tgt := 2) hx hb dX5_reachFrom_84 (by decide) ?_
              exact ih1 v15 M14 _ _ _ hW hS (lv_sub hl [1, 0] rfl) h
            · replace h := oc_s ea11 h
              subst ea11
              have la11 := ho10 _ rfl
              refine lv_aload hx hb dX5_reachFrom_28 (lv_at hl 3 rfl) ?_
              refine gtX5_69 hx hb hts hown hK hW la11 dX5_reachFrom_30 ?_
              refine lv_if_ne (tgt := 61) hx hb dX5_reachFrom_33 (by decide) (fun c16 => ?_) (fun c16 => ?_)
              · replace h := sh_f c16 h
                refine lv_aload hx hb dX5_reachFrom_61 (lv_at hl 3 rfl) ?_
                refine gtX5_79 hx hb hts hown hK hW la11 dX5_reachFrom_63 ?_
                refine tb_topr (fun o17 eo17 => ?_)
                replace h := nm_a eo17 h
                have ho17 : ∀ z, o17 = some z → z < (cnC nS nL) 4 := fun z hz => hW.ref 0 rfl (eo17.symm.trans hz)
                refine tb_astore (lv' := [(5, rv (ad 4) o17), (0, .ref (ad 5 0)), (2, .int i2), (3, .long j9)]) hx hb dX5_reachFrom_66 hl (by decide) rfl (fun ls hl => ?_)
                refine lv_goto (tgt := 23) hx hb dX5_reachFrom_68 (by decide) ?_
                exact ih8 j9 o17 _ _ _ hW hS (lv_sub hl [1, 2, 3, 0] rfl) ho17 h
              · replace h := sh_t c16 h
                refine lv_lload_n hx hb dX5_reachFrom_36 rfl (lv_at hl 2 rfl) ?_
                refine lv_aload hx hb dX5_reachFrom_37 (lv_at hl 3 rfl) ?_
                refine gtX5_73 hx hb hts hown hK hW la11 dX5_reachFrom_39 ?_
                refine tb_cNL hZk hx hb hml hown hts hK hZ hW hS [.int (mgI M3 401 a11 0)] (mX11_bit (l := l) hZk (mgI M3 401 a11 0) M3 (fX11_bit (mgI M3 401 a11 0)) rfl) pmX11_bit (hZ.2.2.2.2.2.1 7 _ rfl) ⟨Nat.le_of_ble_eq_true rfl, Nat.le_of_ble_eq_true rfl⟩ rfl hl.1 (Nat.le_of_ble_eq_true rfl) ⟨Nat.le_refl _, Nat.le_refl _⟩ rfl dX5_reachFrom_42 (fun H locs hW hS => ?_)
                refine lv_aload_n hx hb dX5_reachFrom_45 rfl (lv_at hl 0 rfl) ?_
                refine gtX5_11 hx hb hts hown hK hW cz5 dX5_reachFrom_46 ?_
                refine lv_aload hx hb dX5_reachFrom_49 (lv_at hl 3 rfl) ?_
                refine gtX5_73 hx hb hts hown hK hW la11 dX5_reachFrom_51 ?_
                replace h := ix_a h
                obtain ⟨hj, h⟩ := h
                refine al32 hx hb hK hW cz32 hj dX5_reachFrom_54 (fun o18 eo18 ho18 => ?_)
                replace h := nm_a eo18 h
                replace h := oc_d h
                obtain ⟨a19, ea19, h⟩ := h
                subst ea19
                have la19 := ho18 _ rfl
                refine gtX5_76 hx hb hts hown hK hW la19 dX5_reachFrom_55 ?_
                refine lv_lor hx hb dX5_reachFrom_58 ?_
                refine lv_lor hx hb dX5_reachFrom_59 ?_
                refine lv_topl (fun v20 ev20 => ?_)
                replace h := nm_a ev20 h
                refine lv_lstore_n (lv' := [(3, .long v20), (0, .ref (ad 5 0)), (2, .int i2), (5, .ref (ad 4 a11))]) hx hb dX5_reachFrom_60 rfl hl (by decide) rfl (fun ls hl => ?_)
                refine lv_aload hx hb dX5_reachFrom_61 (lv_at hl 3 rfl) ?_
                refine gtX5_79 hx hb hts hown hK hW la11 dX5_reachFrom_63 ?_
                refine tb_topr (fun o21 eo21 => ?_)
                replace h := nm_a eo21 h
                have ho21 : ∀ z, o21 = some z → z < (cnC nS nL) 4 := fun z hz => hW.ref 0 rfl (eo21.symm.trans hz)
                refine tb_astore (lv' := [(5, rv (ad 4) o21), (3, .long v20), (0, .ref (ad 5 0)), (2, .int i2)]) hx hb dX5_reachFrom_66 hl (by decide) rfl (fun ls hl => ?_)
                refine lv_goto (tgt := 23) hx hb dX5_reachFrom_68 (by decide) ?_
                exact ih8 v20 o21 _ _ _ hW hS (lv_sub hl [2, 3, 1, 0] rfl) ho21 h
        exact L8 FU (0 : Int64) o7 _ _ _ hW hS (lv_sub hl [2, 3, 1, 0] rfl) ho7 h
  exact L1 FU x1 M0 _ _ _ hW hS (lv_sub hl [1, 0] rfl) h
def fX3_hear_b42 (a1 : Nat) (k7 : (Option Nat) → Mem → Option (Unit × Mem)) (o8 : Option Nat) (M9 : Mem) : Option (Unit × Mem) :=
  oc o8 (bE (fX5_reachFrom (mgI M9 800 a1 0) M9) fun u11 M12 => some ((), M12)) fun a10 => if (mgI M9 405 a10 0) = 0 then (nm (fX11_isIn (mgL M9 505 0 0) (mgI M9 401 a10 0)) fun b15 => if b15 = 0 then (nm (mgR M9 402 a10 0) fun o17 => k7 o17 M9) else (nm (msI M9 405 a10 0 (1 : Int32)) fun M18 => nm (mgR M18 402 a10 0) fun o19 => k7 o19 M18)) else (nm (mgR M9 402 a10 0) fun o14 => k7 o14 M9)
def fX3_hear_l42 (a1 : Nat) : Nat → (Option Nat) → Mem → Option (Unit × Mem)
  | 0, _, _ => none
  | n + 1, o8, M9 => fX3_hear_b42 a1 (fX3_hear_l42 a1 n) o8 M9
def fX3_hear_b42_22 (a1 : Nat) (k22 : (Option Nat) → Mem → Option (Unit × Mem)) (o23 : Option Nat) (M24 : Mem) : Option (Unit × Mem) :=
  oc o23 (bE (fX5_reachFrom (mgI M24 800 a1 0) M24) fun u26 M27 => some ((), M27)) fun a25 => if (mgI M24 405 a25 0) = 0 then (nm (fX11_isIn (mgL M24 505 0 0) (mgI M24 401 a25 0)) fun b30 => if b30 = 0 then (nm (mgR M24 402 a25 0) fun o32 => k22 o32 M24) else (nm (msI M24 403 a25 0 (99 : Int32)) fun M33 => nm (mgR M33 402 a25 0) fun o34 => k22 o34 M33)) else (nm (mgR M24 402 a25 0) fun o29 => k22 o29 M24)
def fX3_hear_l42_22 (a1 : Nat) : Nat → (Option Nat) → Mem → Option (Unit × Mem)
  | 0, _, _ => none
  | n + 1, o23, M24 => fX3_hear_b42_22 a1 (fX3_hear_l42_22 a1 n) o23 M24
def fX3_hear (x1 : Option Nat) (M0 : Mem) : Option (Unit × Mem) :=
  oc x1 none fun a1 => bE (fX3_oddsOf (some a1) (1 : Int32) M0) fun b2 M3 => if b2 ≤ (fX3_draw (mgI M0 800 a1 0) (1 : Int32) M0) then (nm (msI M3 810 a1 0 (1 : Int32)) fun M5 => nm (mgR M5 813 a1 0) fun o6 => fX3_hear_l42 a1 FU o6 M5) else (nm (msI M3 810 a1 0 (2 : Int32)) fun M20 => nm (mgR M20 813 a1 0) fun o21 => fX3_hear_l42_22 a1 FU o21 M20)
set_option maxHeartbeats 4000000 in
set_option maxRecDepth 100000 in
theorem mX3_hear {l : Launch} {D : va_G} {cy : Nat → ClassId} {A : Nat → Prop} {K : KC} {nS nL : Nat} {ad : Nat → Nat → Nat} (hZk : ZOK A (ZC A K)) (x1 : Option Nat) (M0 : Mem) (hx1 : ∀ z, x1 = some z → z < (cnC nS nL) 8) (r : Unit) (M' : Mem) (h : fX3_hear x1 M0 = some (r, M')) : Met l yX3_hear (wt yX3_hear cX3_hear 4 none) (rm 7 177) (CPre D cy A (ZC A K) (cnC nS nL) ad M0 [.ref (ad 3 0), rv (ad 8) x1]) (QV D cy A (cnC nS nL) ad r M') 0 0 A := by
  refine tb_start [.ref (ad 3 0), rv (ad 8) x1] [(0, .ref (ad 3 0)), (1, rv (ad 8) x1)] RX3 rfl (by decide +kernel) (by simp [lg_sl, List.flatMap_cons, rv_cat, cat_r, cat_i, cat_l]) (by simp [lv_args, rv_cat, cat_r, cat_i, cat_l]) (fun p e s m args below meth c hx hb hr hml hown hts hlk hW hK hZ ls hl => ?_)
  have hS : va_S A s.heap s.heap [] := va_S.rf
  unfold fX3_hear at h
  refine lv_aload_n hx hb dX3_hear_0 rfl (lv_at hl 0 rfl) ?_
  refine tb_aload_n hx hb dX3_hear_1 rfl (lv_at hl 1 rfl) ?_
  replace h := oc_d h
  obtain ⟨a1, ea1, h⟩ := h
  subst ea1
  have la1 := hx1 _ rfl
  refine gtX3_88 hx hb hts hown hK hW la1 dX3_hear_2 ?_
  refine lv_iconst (v := (1 : Int32)) hx hb dX3_hear_5 (by decide) ?_
  refine tb_cVI hZk hx hb hml hown hts hK hZ hW hS [.int (mgI M0 800 a1 0), .int (1 : Int32)] (mX3_draw (l := l) hZk (mgI M0 800 a1 0) (1 : Int32) M0 (fX3_draw (mgI M0 800 a1 0) (1 : Int32) M0) rfl) pmX3_draw tw790 (Wd.recv hK hW (t := 3) (by decide) cz3 (C := RX3) (T := TX3) (N := 10) rfl) ⟨Nat.le_of_ble_eq_true rfl, Nat.le_of_ble_eq_true rfl⟩ rfl hl.1 (Nat.le_of_ble_eq_true rfl) ⟨Nat.le_refl _, Nat.le_refl _⟩ rfl dX3_hear_6 (fun H locs hW hS => ?_)
  refine lv_aload_n hx hb dX3_hear_9 rfl (lv_at hl 0 rfl) ?_
  refine lv_aload_n hx hb dX3_hear_10 rfl (lv_at hl 1 rfl) ?_
  refine lv_iconst (v := (1 : Int32)) hx hb dX3_hear_11 (by decide) ?_
  replace h := bE_a h
  obtain ⟨b2, M3, hcb2, h⟩ := h
  refine tb_cVI hZk hx hb hml hown hts hK hZ hW hS [.ref (ad 8 a1), .int (1 : Int32)] (mX3_oddsOf (l := l) hZk (some a1) (1 : Int32) M0 (fun z hz => Option.some.inj hz ▸ la1) b2 M3 hcb2) pmX3_oddsOf tw797 (Wd.recv hK hW (t := 3) (by decide) cz3 (C := RX3) (T := TX3) (N := 10) rfl) ⟨Nat.le_of_ble_eq_true rfl, Nat.le_of_ble_eq_true rfl⟩ rfl hl.1 (Nat.le_of_ble_eq_true rfl) ⟨Nat.le_refl _, Nat.le_refl _⟩ rfl dX3_hear_12 (fun H locs hW hS => ?_)
  refine lv_icmp_ge (tgt := 22) hx hb dX3_hear_15 (by decide) (fun c4 => ?_) (fun c4 => ?_)
  · replace h := sh_t c4 h
    refine lv_iconst (v := (0 : Int32)) hx hb dX3_hear_22 (by decide) ?_
    refine lv_istore_n (lv' := [(2, .int (0 : Int32)), (0, .ref (ad 3 0)), (1, .ref (ad 8 a1))]) hx hb dX3_hear_23 rfl hl (by decide) rfl (fun ls hl => ?_)
    refine lv_aload_n hx hb dX3_hear_24 rfl (lv_at hl 2 rfl) ?_
    refine lv_iload_n hx hb dX3_hear_25 rfl (lv_at hl 0 rfl) ?_
    refine lv_if_eq (tgt := 33) hx hb dX3_hear_26 (by decide) (fun _ => ?_) (fun hc => absurd hc (by decide))
    refine lv_iconst (v := (1 : Int32)) hx hb dX3_hear_33 (by decide) ?_
    refine ptX3_93 hx hb hts hown hK hW hS la1 dX3_hear_34 (fun H locs hW hS => ?_)
    obtain ⟨M5, eM5⟩ : ∃ y, y = msI M3 810 a1 0 (1 : Int32) := ⟨_, rfl⟩
    replace h := nm_a eM5 h
    rw [← eM5] at hW
    refine lv_aload_n hx hb dX3_hear_37 rfl (lv_at hl 2 rfl) ?_
    refine gtX3_96 hx hb hts hown hK hW la1 dX3_hear_38 ?_
    refine tb_topr (fun o6 eo6 => ?_)
    replace h := nm_a eo6 h
    have ho6 : ∀ z, o6 = some z → z < (cnC nS nL) 4 := fun z hz => hW.ref 1 rfl (eo6.symm.trans hz)
    refine tb_astore_n (lv' := [(3, rv (ad 4) o6), (2, .int (0 : Int32)), (0, .ref (ad 3 0)), (1, .ref (ad 8 a1))]) hx hb dX3_hear_41 rfl hl (by decide) rfl (fun ls hl => ?_)
    have L7 : ∀ (n7 : Nat) (o8 : Option Nat) (M9 : Mem) (H : Heap) (locs : List Loc) (ls : Array Slot), Wd D cy A (cnC nS nL) ad M9 H → va_S A s.heap H locs → lv_has ls 4 [(0, .ref (ad 3 0)), (1, .ref (ad 8 a1)), (2, .int (0 : Int32)), (3, rv (ad 4) o8)] → (∀ z, o8 = some z → z < (cnC nS nL) 4) → fX3_hear_l42 a1 n7 o8 M9 = some (r, M') → W p l e (rm 7 177) s m args below meth c H locs 0 0 (MQ below (QV D cy A (cnC nS nL) ad r M') args s 0 0 A) (F0 m 42 ls []) := by
      intro n7
      induction n7 with
      | zero => intro o8 M9 H locs ls hW hS hl ho8 h; cases h
      | succ n7 ih7 =>
        intro o8 M9 H locs ls hW hS hl ho8 h
        unfold fX3_hear_l42 fX3_hear_b42 at h
        refine tb_aload_n hx hb dX3_hear_42 rfl (lv_at hl 3 rfl) ?_
        refine tb_ifnull (tgt := 96) hx hb dX3_hear_43 (by decide) (fun e0 => ?_) (fun a10 ea10 => ?_)
        · replace h := oc_n e0 h
          subst e0
          refine lv_aload_n hx hb dX3_hear_96 rfl (lv_at hl 0 rfl) ?_
          refine gtX3_45 hx hb hts hown hK hW cz3 dX3_hear_97 ?_
          refine lv_aload_n hx hb dX3_hear_100 rfl (lv_at hl 1 rfl) ?_
          refine gtX3_88 hx hb hts hown hK hW la1 dX3_hear_101 ?_
          replace h := bE_a h
          obtain ⟨u11, M12, hcu11, h⟩ := h
          refine tb_cVV hZk hx hb hml hown hts hK hZ hW hS [.int (mgI M9 800 a1 0)] (mX5_reachFrom (l := l) hZk (mgI M9 800 a1 0) M9 u11 M12 hcu11) pmX5_reachFrom tw917 (Wd.recv hK hW (t := 5) (by decide) cz5 (C := RX5) (T := TX5) (N := 7) rfl) ⟨Nat.le_of_ble_eq_true rfl, Nat.le_of_ble_eq_true rfl⟩ rfl hl.1 (Nat.le_of_ble_eq_true rfl) ⟨Nat.le_refl _, Nat.le_refl _⟩ rfl dX3_hear_104 (fun H locs hW hS => ?_)
          exact tb_vretE h hx hb hr hS hW hlk dX3_hear_107
        · replace h := oc_s ea10 h
          subst ea10
          have la10 := ho8 _ rfl
          refine lv_aload_n hx hb dX3_hear_46 rfl (lv_at hl 3 rfl) ?_
          refine gtX3_100 hx hb hts hown hK hW la10 dX3_hear_47 ?_
          refine lv_if_ne (tgt := 88) hx hb dX3_hear_50 (by decide) (fun c13 => ?_) (fun c13 => ?_)
          · replace h := sh_f c13 h
            refine lv_aload_n hx hb dX3_hear_88 rfl (lv_at hl 3 rfl) ?_
            refine gtX3_120 hx hb hts hown hK hW la10 dX3_hear_89 ?_
            refine tb_topr (fun o14 eo14 => ?_)
            replace h := nm_a eo14 h
            have ho14 : ∀ z, o14 = some z → z < (cnC nS nL) 4 := fun z hz => hW.ref 0 rfl (eo14.symm.trans hz)
            refine tb_astore_n (lv' := [(3, rv (ad 4) o14), (0, .ref (ad 3 0)), (1, .ref (ad 8 a1)), (2, .int (0 : Int32))]) hx hb dX3_hear_92 rfl hl (by decide) rfl (fun ls hl => ?_)
            refine lv_goto (tgt := 42) hx hb dX3_hear_93 (by decide) ?_
            exact ih7 o14 M9 _ _ _ hW hS (lv_sub hl [1, 2, 3, 0] rfl) ho14 h
          · replace h := sh_t c13 h
            refine lv_aload_n hx hb dX3_hear_53 rfl (lv_at hl 0 rfl) ?_
            refine gtX3_45 hx hb hts hown hK hW cz3 dX3_hear_54 ?_
            refine gtX3_106 hx hb hts hown hK hW cz5 dX3_hear_57 ?_
            refine lv_aload_n hx hb dX3_hear_60 rfl (lv_at hl 3 rfl) ?_
            refine gtX3_110 hx hb hts hown hK hW la10 dX3_hear_61 ?_
            refine tb_cNZ hZk hx hb hml hown hts hK hZ hW hS [.long (mgL M9 505 0 0), .int (mgI M9 401 a10 0)] (mX11_isIn (l := l) hZk (mgL M9 505 0 0) (mgI M9 401 a10 0) M9 (fX11_isIn (mgL M9 505 0 0) (mgI M9 401 a10 0)) rfl) pmX11_isIn (hZ.2.2.2.2.2.1 10 _ rfl) ⟨Nat.le_of_ble_eq_true rfl, Nat.le_of_ble_eq_true rfl⟩ rfl hl.1 (Nat.le_of_ble_eq_true rfl) ⟨Nat.le_refl _, Nat.le_refl _⟩ rfl dX3_hear_64 (fun H locs hW hS hzz => ?_)
            refine lv_topi (fun b15 eb15 => ?_)
            replace h := nm_a eb15 h
            have hzb15 : b15 = 0 ∨ b15 = 1 := by rw [eb15]; exact hzz
            refine lv_if_eq (tgt := 88) hx hb dX3_hear_67 (by decide) (fun c16 => ?_) (fun c16 => ?_)
            · replace h := sh_t c16 h
              refine lv_aload_n hx hb dX3_hear_88 rfl (lv_at hl 3 rfl) ?_
              refine gtX3_120 hx hb hts hown hK hW la10 dX3_hear_89 ?_
              refine tb_topr (fun o17 eo17 => ?_)
              replace h := nm_a eo17 h
              have ho17 : ∀ z, o17 = some z → z < (cnC nS nL) 4 := fun z hz => hW.ref 0 rfl (eo17.symm.trans hz)
              refine tb_astore_n (lv' := [(3, rv (ad 4) o17), (0, .ref (ad 3 0)), (1, .ref (ad 8 a1)), (2, .int (0 : Int32))]) hx hb dX3_hear_92 rfl hl (by decide) rfl (fun ls hl => ?_)
              refine lv_goto (tgt := 42) hx hb dX3_hear_93 (by decide) ?_
              exact ih7 o17 M9 _ _ _ hW hS (lv_sub hl [1, 2, 3, 0] rfl) ho17 h
            · replace h := sh_f c16 h
              refine lv_iload_n hx hb dX3_hear_70 rfl (lv_at hl 2 rfl) ?_
              refine lv_if_eq (tgt := 83) hx hb dX3_hear_71 (by decide) (fun _ => ?_) (fun hc => absurd hc (by decide))
              refine lv_aload_n hx hb dX3_hear_83 rfl (lv_at hl 3 rfl) ?_
              refine lv_iconst (v := (1 : Int32)) hx hb dX3_hear_84 (by decide) ?_
              refine ptX3_100 hx hb hts hown hK hW hS la10 rfl rfl dX3_hear_85 (fun H locs hW hS => ?_)
              obtain ⟨M18, eM18⟩ : ∃ y, y = msI M9 405 a10 0 (1 : Int32) := ⟨_, rfl⟩
              replace h := nm_a eM18 h
              rw [← eM18] at hW
              refine lv_aload_n hx hb dX3_hear_88 rfl (lv_at hl 3 rfl) ?_
              refine gtX3_120 hx hb hts hown hK hW la10 dX3_hear_89 ?_
              refine tb_topr (fun o19 eo19 => ?_)
              replace h := nm_a eo19 h
              have ho19 : ∀ z, o19 = some z → z < (cnC nS nL) 4 := fun z hz => hW.ref 0 rfl (eo19.symm.trans hz)
              refine tb_astore_n (lv' := [(3, rv (ad 4) o19), (0, .ref (ad 3 0)), (1, .ref (ad 8 a1)), (2, .int (0 : Int32))]) hx hb dX3_hear_92 rfl hl (by decide) rfl (fun ls hl => ?_)
              refine lv_goto (tgt := 42) hx hb dX3_hear_93 (by decide) ?_
              exact ih7 o19 M18 _ _ _ hW hS (lv_sub hl [1, 2, 3, 0] rfl) ho19 h
    exact L7 FU o6 M5 _ _ _ hW hS (lv_sub hl [2, 3, 1, 0] rfl) ho6 h
  · replace h := sh_f c4 h
    refine lv_iconst (v := (1 : Int32)) hx hb dX3_hear_18 (by decide) ?_
    refine lv_goto (tgt := 23) hx hb dX3_hear_19 (by decide) ?_
    refine lv_istore_n (lv' := [(2, .int (1 : Int32)), (0, .ref (ad 3 0)), (1, .ref (ad 8 a1))]) hx hb dX3_hear_23 rfl hl (by decide) rfl (fun ls hl => ?_)
    refine lv_aload_n hx hb dX3_hear_24 rfl (lv_at hl 2 rfl) ?_
    refine lv_iload_n hx hb dX3_hear_25 rfl (lv_at hl 0 rfl) ?_
    refine lv_if_eq (tgt := 33) hx hb dX3_hear_26 (by decide) (fun hc => absurd hc (by decide)) (fun _ => ?_)
    refine lv_iconst (v := (2 : Int32)) hx hb dX3_hear_29 (by decide) ?_
    refine lv_goto (tgt := 34) hx hb dX3_hear_30 (by decide) ?_
    refine ptX3_93 hx hb hts hown hK hW hS la1 dX3_hear_34 (fun H locs hW hS => ?_)
    obtain ⟨M20, eM20⟩ : ∃ y, y = msI M3 810 a1 0 (2 : Int32) := ⟨_, rfl⟩
    replace h := nm_a eM20 h
    rw [← eM20] at hW
    refine lv_aload_n hx hb dX3_hear_37 rfl (lv_at hl 2 rfl) ?_
    refine gtX3_96 hx hb hts hown hK hW la1 dX3_hear_38 ?_
    refine tb_topr (fun o21 eo21 => ?_)
    replace h := nm_a eo21 h
    have ho21 : ∀ z, o21 = some z → z < (cnC nS nL) 4 := fun z hz => hW.ref 1 rfl (eo21.symm.trans hz)
    refine tb_astore_n (lv' := [(3, rv (ad 4) o21), (2, .int (1 : Int32)), (0, .ref (ad 3 0)), (1, .ref (ad 8 a1))]) hx hb dX3_hear_41 rfl hl (by decide) rfl (fun ls hl => ?_)
    have L22 : ∀ (n22 : Nat) (o23 : Option Nat) (M24 : Mem) (H : Heap) (locs : List Loc) (ls : Array Slot), Wd D cy A (cnC nS nL) ad M24 H → va_S A s.heap H locs → lv_has ls 4 [(0, .ref (ad 3 0)), (1, .ref (ad 8 a1)), (2, .int (1 : Int32)), (3, rv (ad 4) o23)] → (∀ z, o23 = some z → z < (cnC nS nL) 4) → fX3_hear_l42_22 a1 n22 o23 M24 = some (r, M') → W p l e (rm 7 177) s m args below meth c H locs 0 0 (MQ below (QV D cy A (cnC nS nL) ad r M') args s 0 0 A) (F0 m 42 ls []) := by
      intro n22
      induction n22 with
      | zero => intro o23 M24 H locs ls hW hS hl ho23 h; cases h
      | succ n22 ih22 =>
        intro o23 M24 H locs ls hW hS hl ho23 h
        unfold fX3_hear_l42_22 fX3_hear_b42_22 at h
        refine tb_aload_n hx hb dX3_hear_42 rfl (lv_at hl 3 rfl) ?_
        refine tb_ifnull (tgt := 96) hx hb dX3_hear_43 (by decide) (fun e0 => ?_) (fun a25 ea25 => ?_)
        · replace h := oc_n e0 h
          subst e0
          refine lv_aload_n hx hb dX3_hear_96 rfl (lv_at hl 0 rfl) ?_
          refine gtX3_45 hx hb hts hown hK hW cz3 dX3_hear_97 ?_
          refine lv_aload_n hx hb dX3_hear_100 rfl (lv_at hl 1 rfl) ?_
          refine gtX3_88 hx hb hts hown hK hW la1 dX3_hear_101 ?_
          replace h := bE_a h
          obtain ⟨u26, M27, hcu26, h⟩ := h
          refine tb_cVV hZk hx hb hml hown hts hK hZ hW hS [.int (mgI M24 800 a1 0)] (mX5_reachFrom (l := l) hZk (mgI M24 800 a1 0) M24 u26 M27 hcu26) pmX5_reachFrom tw917 (Wd.recv hK hW (t := 5) (by decide) cz5 (C := RX5) (T := TX5) (N := 7) rfl) ⟨Nat.le_of_ble_eq_true rfl, Nat.le_of_ble_eq_true rfl⟩ rfl hl.1 (Nat.le_of_ble_eq_true rfl) ⟨Nat.le_refl _, Nat.le_refl _⟩ rfl dX3_hear_104 (fun H locs hW hS => ?_)
          exact tb_vretE h hx hb hr hS hW hlk dX3_hear_107
        · replace h := oc_s ea25 h
          subst ea25
          have la25 := ho23 _ rfl
          refine lv_aload_n hx hb dX3_hear_46 rfl (lv_at hl 3 rfl) ?_
          refine gtX3_100 hx hb hts hown hK hW la25 dX3_hear_47 ?_
          refine lv_if_ne (tgt := 88) hx hb dX3_hear_50 (by decide) (fun c28 => ?_) (fun c28 => ?_)
          · replace h := sh_f c28 h
            refine lv_aload_n hx hb dX3_hear_88 rfl (lv_at hl 3 rfl) ?_
            refine gtX3_120 hx hb hts hown hK hW la25 dX3_hear_89 ?_
            refine tb_topr (fun o29 eo29 => ?_)
            replace h := nm_a eo29 h
            have ho29 : ∀ z, o29 = some z → z < (cnC nS nL) 4 := fun z hz => hW.ref 0 rfl (eo29.symm.trans hz)
            refine tb_astore_n (lv' := [(3, rv (ad 4) o29), (0, .ref (ad 3 0)), (1, .ref (ad 8 a1)), (2, .int (1 : Int32))]) hx hb dX3_hear_92 rfl hl (by decide) rfl (fun ls hl => ?_)
            refine lv_goto (tgt := 42) hx hb dX3_hear_93 (by decide) ?_
            exact ih22 o29 M24 _ _ _ hW hS (lv_sub hl [1, 2, 3, 0] rfl) ho29 h
          · replace h := sh_t c28 h
            refine lv_aload_n hx hb dX3_hear_53 rfl (lv_at hl 0 rfl) ?_
            refine gtX3_45 hx hb hts hown hK hW cz3 dX3_hear_54 ?_
            refine gtX3_106 hx hb hts hown hK hW cz5 dX3_hear_57 ?_
            refine lv_aload_n hx hb dX3_hear_60 rfl (lv_at hl 3 rfl) ?_
            refine gtX3_110 hx hb hts hown hK hW la25 dX3_hear_61 ?_
            refine tb_cNZ hZk hx hb hml hown hts hK hZ hW hS [.long (mgL M24 505 0 0), .int (mgI M24 401 a25 0)] (mX11_isIn (l := l) hZk (mgL M24 505 0 0) (mgI M24 401 a25 0) M24 (fX11_isIn (mgL M24 505 0 0) (mgI M24 401 a25 0)) rfl) pmX11_isIn (hZ.2.2.2.2.2.1 10 _ rfl) ⟨Nat.le_of_ble_eq_true rfl, Nat.le_of_ble_eq_true rfl⟩ rfl hl.1 (Nat.le_of_ble_eq_true rfl) ⟨Nat.le_refl _, Nat.le_refl _⟩ rfl dX3_hear_64 (fun H locs hW hS hzz => ?_)
            refine lv_topi (fun b30 eb30 => ?_)
            replace h := nm_a eb30 h
            have hzb30 : b30 = 0 ∨ b30 = 1 := by rw [eb30]; exact hzz
            refine lv_if_eq (tgt := 88) hx hb dX3_hear_67 (by decide) (fun c31 => ?_) (fun c31 => ?_)
            · replace h := sh_t c31 h
              refine lv_aload_n hx hb dX3_hear_88 rfl (lv_at hl 3 rfl) ?_
              refine gtX3_120 hx hb hts hown hK hW la25 dX3_hear_89 ?_
              refine tb_topr (fun o32 eo32 => ?_)
              replace h := nm_a eo32 h
              have ho32 : ∀ z, o32 = some z → z < (cnC nS nL) 4 := fun z hz => hW.ref 0 rfl (eo32.symm.trans hz)
              refine tb_astore_n (lv' := [(3, rv (ad 4) o32), (0, .ref (ad 3 0)), (1, .ref (ad 8 a1)), (2, .int (1 : Int32))]) hx hb dX3_hear_92 rfl hl (by decide) rfl (fun ls hl => ?_)
              refine lv_goto (tgt := 42) hx hb dX3_hear_93 (by decide) ?_
              exact ih22 o32 M24 _ _ _ hW hS (lv_sub hl [1, 2, 3, 0] rfl) ho32 h
            · replace h := sh_f c31 h
              refine lv_iload_n hx hb dX3_hear_70 rfl (lv_at hl 2 rfl) ?_
              refine lv_if_eq (tgt := 83) hx hb dX3_hear_71 (by decide) (fun hc => absurd hc (by decide)) (fun _ => ?_)
              refine lv_aload_n hx hb dX3_hear_74 rfl (lv_at hl 3 rfl) ?_
              refine lv_bipush (v := (99 : Int32)) hx hb dX3_hear_75 (by decide) ?_
              refine ptX3_117 hx hb hts hown hK hW hS la25 dX3_hear_77 (fun H locs hW hS => ?_)
              obtain ⟨M33, eM33⟩ : ∃ y, y = msI M24 403 a25 0 (99 : Int32) := ⟨_, rfl⟩
              replace h := nm_a eM33 h
              rw [← eM33] at hW
              refine lv_goto (tgt := 88) hx hb dX3_hear_80 (by decide) ?_
              refine lv_aload_n hx hb dX3_hear_88 rfl (lv_at hl 3 rfl) ?_
              refine gtX3_120 hx hb hts hown hK hW la25 dX3_hear_89 ?_
              refine tb_topr (fun o34 eo34 => ?_)
              replace h := nm_a eo34 h
              have ho34 : ∀ z, o34 = some z → z < (cnC nS nL) 4 := fun z hz => hW.ref 0 rfl (eo34.symm.trans hz)
              refine tb_astore_n (lv' := [(3, rv (ad 4) o34), (0, .ref (ad 3 0)), (1, .ref (ad 8 a1)), (2, .int (1 : Int32))]) hx hb dX3_hear_92 rfl hl (by decide) rfl (fun ls hl => ?_)
              refine lv_goto (tgt := 42) hx hb dX3_hear_93 (by decide) ?_
              exact ih22 o34 M33 _ _ _ hW hS (lv_sub hl [1, 2, 3, 0] rfl) ho34 h
    exact L22 FU o21 M20 _ _ _ hW hS (lv_sub hl [2, 3, 1, 0] rfl) ho21 h
def fX3_goOneMonth_b17 (k3 : Int32 → Int32 → Mem → Option (Int32 × Mem)) (i4 : Int32) (i5 : Int32) (M6 : Mem) : Option (Int32 × Mem) :=
  if (mgI M6 502 0 0) ≤ i5 then (some (i4, M6)) else (ix i5 64 <| nm (mgR M6 3200 0 i5.toNatClampNeg) fun o8 => bd (fX5_isStill o8 M6) fun b9 => if b9 = 0 then (nm (i5 + (1 : Int32)) fun v11 => k3 i4 v11 M6) else (bE (fX3_oddsOf o8 (0 : Int32) M6) fun b12 M13 => if b12 ≤ (fX3_draw i5 (0 : Int32) M6) then (nm (i5 + (1 : Int32)) fun v15 => k3 i4 v15 M13) else (bE (fX3_hear o8 M13) fun u16 M17 => nm (i4 + (1 : Int32)) fun v18 => nm (i5 + (1 : Int32)) fun v19 => k3 v18 v19 M17)))
def fX3_goOneMonth_l17 : Nat → Int32 → Int32 → Mem → Option (Int32 × Mem)
  | 0, _, _, _ => none
  | n + 1, i4, i5, M6 => fX3_goOneMonth_b17 (fX3_goOneMonth_l17 n) i4 i5 M6
def fX3_goOneMonth (M0 : Mem) : Option (Int32 × Mem) :=
  nm ((mgI M0 504 0 0) + (1 : Int32)) fun v1 => nm (msI M0 504 0 0 v1) fun M2 => fX3_goOneMonth_l17 FU (0 : Int32) (0 : Int32) M2
set_option maxHeartbeats 4000000 in
set_option maxRecDepth 100000 in
theorem mX3_goOneMonth {l : Launch} {D : va_G} {cy : Nat → ClassId} {A : Nat → Prop} {K : KC} {nS nL : Nat} {ad : Nat → Nat → Nat} (hZk : ZOK A (ZC A K)) (M0 : Mem) (r : Int32) (M' : Mem) (h : fX3_goOneMonth M0 = some (r, M')) : Met l yX3_goOneMonth (wt yX3_goOneMonth cX3_goOneMonth 4 (some .int)) (rm 8 200) (CPre D cy A (ZC A K) (cnC nS nL) ad M0 [.ref (ad 3 0)]) (QI D cy A (cnC nS nL) ad r M') 0 0 A := by
  refine tb_start [.ref (ad 3 0)] [(0, .ref (ad 3 0))] RX3 rfl (by decide +kernel) (Nat.le_of_ble_eq_true rfl) rfl (fun p e s m args below meth c hx hb hr hml hown hts hlk hW hK hZ ls hl => ?_)
  have hS : va_S A s.heap s.heap [] := va_S.rf
  unfold fX3_goOneMonth at h
  refine lv_iconst (v := (0 : Int32)) hx hb dX3_goOneMonth_0 (by decide) ?_
  refine lv_istore_n (lv' := [(1, .int (0 : Int32)), (0, .ref (ad 3 0))]) hx hb dX3_goOneMonth_1 rfl hl (by decide) rfl (fun ls hl => ?_)
  refine lv_aload_n hx hb dX3_goOneMonth_2 rfl (lv_at hl 1 rfl) ?_
  refine gtX3_45 hx hb hts hown hK hW cz3 dX3_goOneMonth_3 ?_
  refine lv_dup hx hb dX3_goOneMonth_6 rfl ?_
  refine gtX3_53 hx hb hts hown hK hW cz5 dX3_goOneMonth_7 ?_
  refine lv_iconst (v := (1 : Int32)) hx hb dX3_goOneMonth_10 (by decide) ?_
  refine lv_iadd hx hb dX3_goOneMonth_11 ?_
  refine lv_topi (fun v1 ev1 => ?_)
  replace h := nm_a ev1 h
  refine ptX3_53 hx hb hts hown hK hW hS cz5 dX3_goOneMonth_12 (fun H locs hW hS => ?_)
  obtain ⟨M2, eM2⟩ : ∃ y, y = msI M0 504 0 0 v1 := ⟨_, rfl⟩
  replace h := nm_a eM2 h
  rw [← eM2] at hW
  refine lv_iconst (v := (0 : Int32)) hx hb dX3_goOneMonth_15 (by decide) ?_
  refine lv_istore_n (lv' := [(2, .int (0 : Int32)), (1, .int (0 : Int32)), (0, .ref (ad 3 0))]) hx hb dX3_goOneMonth_16 rfl hl (by decide) rfl (fun ls hl => ?_)
  have L3 : ∀ (n3 : Nat) (i4 : Int32) (i5 : Int32) (M6 : Mem) (H : Heap) (locs : List Loc) (ls : Array Slot), Wd D cy A (cnC nS nL) ad M6 H → va_S A s.heap H locs → lv_has ls 4 [(0, .ref (ad 3 0)), (1, .int i4), (2, .int i5)] → fX3_goOneMonth_l17 n3 i4 i5 M6 = some (r, M') → W p l e (rm 8 200) s m args below meth c H locs 0 0 (MQ below (QI D cy A (cnC nS nL) ad r M') args s 0 0 A) (F0 m 17 ls []) := by
    intro n3
    induction n3 with
    | zero => intro i4 i5 M6 H locs ls hW hS hl h; cases h
    | succ n3 ih3 =>
      intro i4 i5 M6 H locs ls hW hS hl h
      unfold fX3_goOneMonth_l17 fX3_goOneMonth_b17 at h
      refine lv_iload_n hx hb dX3_goOneMonth_17 rfl (lv_at hl 2 rfl) ?_
      refine lv_aload_n hx hb dX3_goOneMonth_18 rfl (lv_at hl 0 rfl) ?_
      refine gtX3_45 hx hb hts hown hK hW cz3 dX3_goOneMonth_19 ?_
      refine gtX3_59 hx hb hts hown hK hW cz5 dX3_goOneMonth_22 ?_
      refine lv_icmp_ge (tgt := 78) hx hb dX3_goOneMonth_25 (by decide) (fun c7 => ?_) (fun c7 => ?_)
      · replace h := sh_t c7 h
        refine lv_iload_n hx hb dX3_goOneMonth_78 rfl (lv_at hl 1 rfl) ?_
        exact tb_iretE h hx hb hr hS hW hlk dX3_goOneMonth_79
      · replace h := sh_f c7 h
        refine lv_aload_n hx hb dX3_goOneMonth_28 rfl (lv_at hl 0 rfl) ?_
        refine gtX3_45 hx hb hts hown hK hW cz3 dX3_goOneMonth_29 ?_
        refine gtX3_62 hx hb hts hown hK hW cz5 dX3_goOneMonth_32 ?_
        refine lv_iload_n hx hb dX3_goOneMonth_35 rfl (lv_at hl 2 rfl) ?_
        replace h := ix_a h
        obtain ⟨hj, h⟩ := h
        refine al32 hx hb hK hW cz32 hj dX3_goOneMonth_36 (fun o8 eo8 ho8 => ?_)
        replace h := nm_a eo8 h
        refine tb_astore_n (lv' := [(3, rv (ad 8) o8), (0, .ref (ad 3 0)), (1, .int i4), (2, .int i5)]) hx hb dX3_goOneMonth_37 rfl hl (by decide) rfl (fun ls hl => ?_)
        refine lv_aload_n hx hb dX3_goOneMonth_38 rfl (lv_at hl 1 rfl) ?_
        refine gtX3_45 hx hb hts hown hK hW cz3 dX3_goOneMonth_39 ?_
        refine tb_aload_n hx hb dX3_goOneMonth_42 rfl (lv_at hl 0 rfl) ?_
        replace h := bd_a h
        obtain ⟨b9, hcb9, h⟩ := h
        refine tb_cVZ hZk hx hb hml hown hts hK hZ hW hS [rv (ad 8) o8] (mX5_isStill (l := l) hZk o8 M6 ho8 b9 hcb9) pmX5_isStill tw789 (Wd.recv hK hW (t := 5) (by decide) cz5 (C := RX5) (T := TX5) (N := 7) rfl) ⟨Nat.le_of_ble_eq_true rfl, Nat.le_of_ble_eq_true rfl⟩ rfl hl.1 (Nat.le_of_ble_eq_true rfl) ⟨Nat.le_refl _, Nat.le_refl _⟩ rfl dX3_goOneMonth_43 (fun H locs hW hS hzz => ?_)
        have hzb9 := hzz
        refine lv_if_eq (tgt := 72) hx hb dX3_goOneMonth_46 (by decide) (fun c10 => ?_) (fun c10 => ?_)
        · replace h := sh_t c10 h
          obtain ⟨v11, ev11⟩ : ∃ y : Int32, y = i5 + (1 : Int32) := ⟨_, rfl⟩
          replace h := nm_a ev11 h
          refine lv_iinc (v := v11) (lv' := [(2, .int v11), (3, rv (ad 8) o8), (0, .ref (ad 3 0)), (1, .int i4)]) hx hb dX3_goOneMonth_72 hl (k := 3) rfl (by rw [ev11]; rfl) (by decide) rfl (fun ls hl => ?_)
          refine lv_goto (tgt := 17) hx hb dX3_goOneMonth_75 (by decide) ?_
          exact ih3 i4 v11 M6 _ _ _ hW hS (lv_sub hl [2, 3, 0] rfl) h
        · replace h := sh_f c10 h
          refine lv_aload_n hx hb dX3_goOneMonth_49 rfl (lv_at hl 1 rfl) ?_
          refine lv_iload_n hx hb dX3_goOneMonth_50 rfl (lv_at hl 3 rfl) ?_
          refine lv_iconst (v := (0 : Int32)) hx hb dX3_goOneMonth_51 (by decide) ?_
          refine tb_cVI hZk hx hb hml hown hts hK hZ hW hS [.int i5, .int (0 : Int32)] (mX3_draw (l := l) hZk i5 (0 : Int32) M6 (fX3_draw i5 (0 : Int32) M6) rfl) pmX3_draw tw790 (Wd.recv hK hW (t := 3) (by decide) cz3 (C := RX3) (T := TX3) (N := 10) rfl) ⟨Nat.le_of_ble_eq_true rfl, Nat.le_of_ble_eq_true rfl⟩ rfl hl.1 (Nat.le_of_ble_eq_true rfl) ⟨Nat.le_refl _, Nat.le_refl _⟩ rfl dX3_goOneMonth_52 (fun H locs hW hS => ?_)
          refine lv_aload_n hx hb dX3_goOneMonth_55 rfl (lv_at hl 1 rfl) ?_
          refine tb_aload_n hx hb dX3_goOneMonth_56 rfl (lv_at hl 0 rfl) ?_
          refine lv_iconst (v := (0 : Int32)) hx hb dX3_goOneMonth_57 (by decide) ?_
          replace h := bE_a h
          obtain ⟨b12, M13, hcb12, h⟩ := h
          refine tb_cVI hZk hx hb hml hown hts hK hZ hW hS [rv (ad 8) o8, .int (0 : Int32)] (mX3_oddsOf (l := l) hZk o8 (0 : Int32) M6 ho8 b12 M13 hcb12) pmX3_oddsOf tw797 (Wd.recv hK hW (t := 3) (by decide) cz3 (C := RX3) (T := TX3) (N := 10) rfl) ⟨Nat.le_of_ble_eq_true rfl, Nat.le_of_ble_eq_true rfl⟩ rfl hl.1 (Nat.le_of_ble_eq_true rfl) ⟨Nat.le_refl _, Nat.le_refl _⟩ rfl dX3_goOneMonth_58 (fun H locs hW hS => ?_)
          refine lv_icmp_ge (tgt := 72) hx hb dX3_goOneMonth_61 (by decide) (fun c14 => ?_) (fun c14 => ?_)
          · replace h := sh_t c14 h
            obtain ⟨v15, ev15⟩ : ∃ y : Int32, y = i5 + (1 : Int32) := ⟨_, rfl⟩
            replace h := nm_a ev15 h
            refine lv_iinc (v := v15) (lv' := [(2, .int v15), (3, rv (ad 8) o8), (0, .ref (ad 3 0)), (1, .int i4)]) hx hb dX3_goOneMonth_72 hl (k := 3) rfl (by rw [ev15]; rfl) (by decide) rfl (fun ls hl => ?_)
            refine lv_goto (tgt := 17) hx hb dX3_goOneMonth_75 (by decide) ?_
            exact ih3 i4 v15 M13 _ _ _ hW hS (lv_sub hl [2, 3, 0] rfl) h
          · replace h := sh_f c14 h
            refine lv_aload_n hx hb dX3_goOneMonth_64 rfl (lv_at hl 1 rfl) ?_
            refine tb_aload_n hx hb dX3_goOneMonth_65 rfl (lv_at hl 0 rfl) ?_
            replace h := bE_a h
            obtain ⟨u16, M17, hcu16, h⟩ := h
            refine tb_cVV hZk hx hb hml hown hts hK hZ hW hS [rv (ad 8) o8] (mX3_hear (l := l) hZk o8 M13 ho8 u16 M17 hcu16) pmX3_hear tw913 (Wd.recv hK hW (t := 3) (by decide) cz3 (C := RX3) (T := TX3) (N := 10) rfl) ⟨Nat.le_of_ble_eq_true rfl, Nat.le_of_ble_eq_true rfl⟩ rfl hl.1 (Nat.le_of_ble_eq_true rfl) ⟨Nat.le_refl _, Nat.le_refl _⟩ rfl dX3_goOneMonth_66 (fun H locs hW hS => ?_)
            obtain ⟨v18, ev18⟩ : ∃ y : Int32, y = i4 + (1 : Int32) := ⟨_, rfl⟩
            replace h := nm_a ev18 h
            refine lv_iinc (v := v18) (lv' := [(1, .int v18), (3, rv (ad 8) o8), (0, .ref (ad 3 0)), (2, .int i5)]) hx hb dX3_goOneMonth_69 hl (k := 2) rfl (by rw [ev18]; rfl) (by decide) rfl (fun ls hl => ?_)
            obtain ⟨v19, ev19⟩ : ∃ y : Int32, y = i5 + (1 : Int32) := ⟨_, rfl⟩
            replace h := nm_a ev19 h
            refine lv_iinc (v := v19) (lv' := [(2, .int v19), (1, .int v18), (3, rv (ad 8) o8), (0, .ref (ad 3 0))]) hx hb dX3_goOneMonth_72 hl (k := 3) rfl (by rw [ev19]; rfl) (by decide) rfl (fun ls hl => ?_)
            refine lv_goto (tgt := 17) hx hb dX3_goOneMonth_75 (by decide) ?_
            exact ih3 v18 v19 M17 _ _ _ hW hS (lv_sub hl [3, 1, 0] rfl) h
  exact L3 FU (0 : Int32) (0 : Int32) M2 _ _ _ hW hS (lv_sub hl [2, 1, 0] rfl) h
def fX5_above_b7 (M0 : Mem) (x1 : Int32) (k2 : Int64 → Int32 → Option Int64) (j3 : Int64) (i4 : Int32) : Option Int64 :=
  if (mgI M0 502 0 0) ≤ i4 then (some j3) else (ix i4 64 <| nm (mgR M0 3200 0 i4.toNatClampNeg) fun o6 => oc o6 none fun a7 => nm (fX11_isIn (mgL M0 815 a7 0) x1) fun b8 => if b8 = 0 then (nm (i4 + (1 : Int32)) fun v10 => k2 j3 v10) else (nm (j3 ||| (fX11_bit i4)) fun v11 => nm (i4 + (1 : Int32)) fun v12 => k2 v11 v12))
def fX5_above_l7 (M0 : Mem) (x1 : Int32) : Nat → Int64 → Int32 → Option Int64
  | 0, _, _ => none
  | n + 1, j3, i4 => fX5_above_b7 M0 x1 (fX5_above_l7 M0 x1 n) j3 i4
def fX5_above (x1 : Int32) (M0 : Mem) : Option Int64 :=
  nm (x1 + (1 : Int32)) fun v1 => fX5_above_l7 M0 x1 FU (0 : Int64) v1
set_option maxHeartbeats 4000000 in
set_option maxRecDepth 100000 in
theorem mX5_above {l : Launch} {D : va_G} {cy : Nat → ClassId} {A : Nat → Prop} {K : KC} {nS nL : Nat} {ad : Nat → Nat → Nat} (hZk : ZOK A (ZC A K)) (x1 : Int32) (M0 : Mem) (r : Int64) (h : fX5_above x1 M0 = some r) : Met l yX5_above (wt yX5_above cX5_above 5 (some .long)) (rm 1 22) (CPre D cy A (ZC A K) (cnC nS nL) ad M0 [.ref (ad 5 0), .int x1]) (QL D cy A (cnC nS nL) ad r M0) 0 0 A := by
  refine tb_start [.ref (ad 5 0), .int x1] [(0, .ref (ad 5 0)), (1, .int x1)] RX5 rfl (by decide +kernel) (Nat.le_of_ble_eq_true rfl) rfl (fun p e s m args below meth c hx hb hr hml hown hts hlk hW hK hZ ls hl => ?_)
  have hS : va_S A s.heap s.heap [] := va_S.rf
  unfold fX5_above at h
  refine lv_lconst (v := (0 : Int64)) hx hb dX5_above_0 (by decide) ?_
  refine lv_lstore_n (lv' := [(2, .long (0 : Int64)), (0, .ref (ad 5 0)), (1, .int x1)]) hx hb dX5_above_1 rfl hl (by decide) rfl (fun ls hl => ?_)
  refine lv_iload_n hx hb dX5_above_2 rfl (lv_at hl 2 rfl) ?_
  refine lv_iconst (v := (1 : Int32)) hx hb dX5_above_3 (by decide) ?_
  refine lv_iadd hx hb dX5_above_4 ?_
  refine lv_topi (fun v1 ev1 => ?_)
  replace h := nm_a ev1 h
  refine lv_istore (lv' := [(4, .int v1), (2, .long (0 : Int64)), (0, .ref (ad 5 0)), (1, .int x1)]) hx hb dX5_above_5 hl (by decide) rfl (fun ls hl => ?_)
  have L2 : ∀ (n2 : Nat) (j3 : Int64) (i4 : Int32) (H : Heap) (locs : List Loc) (ls : Array Slot), Wd D cy A (cnC nS nL) ad M0 H → va_S A s.heap H locs → lv_has ls 5 [(0, .ref (ad 5 0)), (1, .int x1), (2, .long j3), (4, .int i4)] → fX5_above_l7 M0 x1 n2 j3 i4 = some r → W p l e (rm 1 22) s m args below meth c H locs 0 0 (MQ below (QL D cy A (cnC nS nL) ad r M0) args s 0 0 A) (F0 m 7 ls []) := by
    intro n2
    induction n2 with
    | zero => intro j3 i4 H locs ls hW hS hl h; cases h
    | succ n2 ih2 =>
      intro j3 i4 H locs ls hW hS hl h
      unfold fX5_above_l7 fX5_above_b7 at h
      refine lv_iload hx hb dX5_above_7 (lv_at hl 3 rfl) ?_
      refine lv_aload_n hx hb dX5_above_9 rfl (lv_at hl 0 rfl) ?_
      refine gtX5_27 hx hb hts hown hK hW cz5 dX5_above_10 ?_
      refine lv_icmp_ge (tgt := 47) hx hb dX5_above_13 (by decide) (fun c5 => ?_) (fun c5 => ?_)
      · replace h := sh_t c5 h
        refine lv_lload_n hx hb dX5_above_47 rfl (lv_at hl 2 rfl) ?_
        exact tb_lretO h hx hb hr hS hW hlk dX5_above_48
      · replace h := sh_f c5 h
        refine lv_aload_n hx hb dX5_above_16 rfl (lv_at hl 0 rfl) ?_
        refine gtX5_11 hx hb hts hown hK hW cz5 dX5_above_17 ?_
        refine lv_iload hx hb dX5_above_20 (lv_at hl 3 rfl) ?_
        replace h := ix_a h
        obtain ⟨hj, h⟩ := h
        refine al32 hx hb hK hW cz32 hj dX5_above_22 (fun o6 eo6 ho6 => ?_)
        replace h := nm_a eo6 h
        replace h := oc_d h
        obtain ⟨a7, ea7, h⟩ := h
        subst ea7
        have la7 := ho6 _ rfl
        refine gtX5_76 hx hb hts hown hK hW la7 dX5_above_23 ?_
        refine lv_iload_n hx hb dX5_above_26 rfl (lv_at hl 1 rfl) ?_
        refine tb_cNZ hZk hx hb hml hown hts hK hZ hW hS [.long (mgL M0 815 a7 0), .int x1] (mX11_isIn (l := l) hZk (mgL M0 815 a7 0) x1 M0 (fX11_isIn (mgL M0 815 a7 0) x1) rfl) pmX11_isIn (hZ.2.2.2.2.2.1 6 _ rfl) ⟨Nat.le_of_ble_eq_true rfl, Nat.le_of_ble_eq_true rfl⟩ rfl hl.1 (Nat.le_of_ble_eq_true rfl) ⟨Nat.le_refl _, Nat.le_refl _⟩ rfl dX5_above_27 (fun H locs hW hS hzz => ?_)
        refine lv_topi (fun b8 eb8 => ?_)
        replace h := nm_a eb8 h
        have hzb8 : b8 = 0 ∨ b8 = 1 := by rw [eb8]; exact hzz
        refine lv_if_eq (tgt := 41) hx hb dX5_above_30 (by decide) (fun c9 => ?_) (fun c9 => ?_)
        · replace h := sh_t c9 h
          obtain ⟨v10, ev10⟩ : ∃ y : Int32, y = i4 + (1 : Int32) := ⟨_, rfl⟩
          replace h := nm_a ev10 h
          refine lv_iinc (v := v10) (lv' := [(4, .int v10), (0, .ref (ad 5 0)), (1, .int x1), (2, .long j3)]) hx hb dX5_above_41 hl (k := 3) rfl (by rw [ev10]; rfl) (by decide) rfl (fun ls hl => ?_)
          refine lv_goto (tgt := 7) hx hb dX5_above_44 (by decide) ?_
          exact ih2 j3 v10 _ _ _ hW hS (lv_sub hl [1, 2, 3, 0] rfl) h
        · replace h := sh_f c9 h
          refine lv_lload_n hx hb dX5_above_33 rfl (lv_at hl 2 rfl) ?_
          refine lv_iload hx hb dX5_above_34 (lv_at hl 3 rfl) ?_
          refine tb_cNL hZk hx hb hml hown hts hK hZ hW hS [.int i4] (mX11_bit (l := l) hZk i4 M0 (fX11_bit i4) rfl) pmX11_bit (hZ.2.2.2.2.2.1 7 _ rfl) ⟨Nat.le_of_ble_eq_true rfl, Nat.le_of_ble_eq_true rfl⟩ rfl hl.1 (Nat.le_of_ble_eq_true rfl) ⟨Nat.le_refl _, Nat.le_refl _⟩ rfl dX5_above_36 (fun H locs hW hS => ?_)
          refine lv_lor hx hb dX5_above_39 ?_
          refine lv_topl (fun v11 ev11 => ?_)
          replace h := nm_a ev11 h
          refine lv_lstore_n (lv' := [(2, .long v11), (0, .ref (ad 5 0)), (1, .int x1), (4, .int i4)]) hx hb dX5_above_40 rfl hl (by decide) rfl (fun ls hl => ?_)
          obtain ⟨v12, ev12⟩ : ∃ y : Int32, y = i4 + (1 : Int32) := ⟨_, rfl⟩
          replace h := nm_a ev12 h
          refine lv_iinc (v := v12) (lv' := [(4, .int v12), (2, .long v11), (0, .ref (ad 5 0)), (1, .int x1)]) hx hb dX5_above_41 hl (k := 3) rfl (by rw [ev12]; rfl) (by decide) rfl (fun ls hl => ?_)
          refine lv_goto (tgt := 7) hx hb dX5_above_44 (by decide) ?_
          exact ih2 v11 v12 _ _ _ hW hS (lv_sub hl [2, 3, 1, 0] rfl) h
  exact L2 FU (0 : Int64) v1 _ _ _ hW hS (lv_sub hl [2, 3, 1, 0] rfl) h
def fX3_gatherSets_b77 (i4 : Int32) (i5 : Int32) (k3 : Int32 → Int32 → Mem → Option (Int32 × Mem)) (v14 : Int64) (o9 : Option Nat) (k15 : Int32 → Mem → Option (Int32 × Mem)) (i16 : Int32) (M17 : Mem) : Option (Int32 × Mem) :=
  if i4 ≤ i16 then (nm (i4 * (2 : Int32)) fun v19 => nm (i5 + (1 : Int32)) fun v20 => k3 v19 v20 M17) else (ix i16 1024 <| nm ((mgL M17 2800 0 i16.toNatClampNeg) ||| v14) fun v21 => ix (i4 + i16) 1024 <| nm (msL M17 2800 0 ((i4 + i16).toNatClampNeg) v21) fun M22 => ix i16 1024 <| oc o9 none fun a23 => nm ((mgI M22 2900 0 i16.toNatClampNeg) + (mgI M22 803 a23 0)) fun v24 => ix (i4 + i16) 1024 <| nm (msI M22 2900 0 ((i4 + i16).toNatClampNeg) v24) fun M25 => nm (i16 + (1 : Int32)) fun v26 => k15 v26 M25)
def fX3_gatherSets_l77 (i4 : Int32) (i5 : Int32) (k3 : Int32 → Int32 → Mem → Option (Int32 × Mem)) (v14 : Int64) (o9 : Option Nat) : Nat → Int32 → Mem → Option (Int32 × Mem)
  | 0, _, _ => none
  | n + 1, i16, M17 => fX3_gatherSets_b77 i4 i5 k3 v14 o9 (fX3_gatherSets_l77 i4 i5 k3 v14 o9 n) i16 M17
def fX3_gatherSets_b18 (k3 : Int32 → Int32 → Mem → Option (Int32 × Mem)) (i4 : Int32) (i5 : Int32) (M6 : Mem) : Option (Int32 × Mem) :=
  if (mgI M6 502 0 0) ≤ i5 then (some (i4, M6)) else (if (1024 : Int32) ≤ i4 then (some (i4, M6)) else (ix i5 64 <| nm (mgR M6 3200 0 i5.toNatClampNeg) fun o9 => bd (fX5_isStill o9 M6) fun b10 => if b10 = 0 then (nm (i5 + (1 : Int32)) fun v12 => k3 i4 v12 M6) else (bd (fX5_above i5 M6) fun g13 => nm (g13 ||| (fX11_bit i5)) fun v14 => fX3_gatherSets_l77 i4 i5 k3 v14 o9 FU (0 : Int32) M6)))
def fX3_gatherSets_l18 : Nat → Int32 → Int32 → Mem → Option (Int32 × Mem)
  | 0, _, _, _ => none
  | n + 1, i4, i5, M6 => fX3_gatherSets_b18 (fX3_gatherSets_l18 n) i4 i5 M6
def fX3_gatherSets (M0 : Mem) : Option (Int32 × Mem) :=
  nm (msL M0 2800 0 ((0 : Int32).toNatClampNeg) (0 : Int64)) fun M1 => nm (msI M1 2900 0 ((0 : Int32).toNatClampNeg) (0 : Int32)) fun M2 => fX3_gatherSets_l18 FU (1 : Int32) (0 : Int32) M2
set_option maxHeartbeats 4000000 in
set_option maxRecDepth 100000 in
theorem mX3_gatherSets {l : Launch} {D : va_G} {cy : Nat → ClassId} {A : Nat → Prop} {K : KC} {nS nL : Nat} {ad : Nat → Nat → Nat} (hZk : ZOK A (ZC A K)) (M0 : Mem) (r : Int32) (M' : Mem) (h : fX3_gatherSets M0 = some (r, M')) : Met l yX3_gatherSets (wt yX3_gatherSets cX3_gatherSets 7 (some .int)) (rm 2 46) (CPre D cy A (ZC A K) (cnC nS nL) ad M0 [.ref (ad 3 0)]) (QI D cy A (cnC nS nL) ad r M') 0 0 A := by
  refine tb_start [.ref (ad 3 0)] [(0, .ref (ad 3 0))] RX3 rfl (by decide +kernel) (Nat.le_of_ble_eq_true rfl) rfl (fun p e s m args below meth c hx hb hr hml hown hts hlk hW hK hZ ls hl => ?_)
  have hS : va_S A s.heap s.heap [] := va_S.rf
  unfold fX3_gatherSets at h
  refine lv_iconst (v := (1 : Int32)) hx hb dX3_gatherSets_0 (by decide) ?_
  refine lv_istore_n (lv' := [(1, .int (1 : Int32)), (0, .ref (ad 3 0))]) hx hb dX3_gatherSets_1 rfl hl (by decide) rfl (fun ls hl => ?_)
  refine lv_aload_n hx hb dX3_gatherSets_2 rfl (lv_at hl 1 rfl) ?_
  refine gtX3_21 hx hb hts hown hK hW cz3 dX3_gatherSets_3 ?_
  refine lv_iconst (v := (0 : Int32)) hx hb dX3_gatherSets_6 (by decide) ?_
  refine lv_lconst (v := (0 : Int64)) hx hb dX3_gatherSets_7 (by decide) ?_
  refine as28 hx hb hK hW hS cz28 (vp_in_iff.mpr (by decide)) dX3_gatherSets_8 (fun H locs hW hS => ?_)
  obtain ⟨M1, eM1⟩ : ∃ y, y = msL M0 2800 0 ((0 : Int32).toNatClampNeg) (0 : Int64) := ⟨_, rfl⟩
  replace h := nm_a eM1 h
  rw [← eM1] at hW
  refine lv_aload_n hx hb dX3_gatherSets_9 rfl (lv_at hl 1 rfl) ?_
  refine gtX3_25 hx hb hts hown hK hW cz3 dX3_gatherSets_10 ?_
  refine lv_iconst (v := (0 : Int32)) hx hb dX3_gatherSets_13 (by decide) ?_
  refine lv_iconst (v := (0 : Int32)) hx hb dX3_gatherSets_14 (by decide) ?_
  refine as29 hx hb hK hW hS cz29 (vp_in_iff.mpr (by decide)) dX3_gatherSets_15 (fun H locs hW hS => ?_)
  obtain ⟨M2, eM2⟩ : ∃ y, y = msI M1 2900 0 ((0 : Int32).toNatClampNeg) (0 : Int32) := ⟨_, rfl⟩
  replace h := nm_a eM2 h
  rw [← eM2] at hW
  refine lv_iconst (v := (0 : Int32)) hx hb dX3_gatherSets_16 (by decide) ?_
  refine lv_istore_n (lv' := [(2, .int (0 : Int32)), (1, .int (1 : Int32)), (0, .ref (ad 3 0))]) hx hb dX3_gatherSets_17 rfl hl (by decide) rfl (fun ls hl => ?_)
  have L3 : ∀ (n3 : Nat) (i4 : Int32) (i5 : Int32) (M6 : Mem) (H : Heap) (locs : List Loc) (ls : Array Slot), Wd D cy A (cnC nS nL) ad M6 H → va_S A s.heap H locs → lv_has ls 7 [(0, .ref (ad 3 0)), (1, .int i4), (2, .int i5)] → fX3_gatherSets_l18 n3 i4 i5 M6 = some (r, M') → W p l e (rm 2 46) s m args below meth c H locs 0 0 (MQ below (QI D cy A (cnC nS nL) ad r M') args s 0 0 A) (F0 m 18 ls []) := by
    intro n3
    induction n3 with
    | zero => intro i4 i5 M6 H locs ls hW hS hl h; cases h
    | succ n3 ih3 =>
      intro i4 i5 M6 H locs ls hW hS hl h
      unfold fX3_gatherSets_l18 fX3_gatherSets_b18 at h
      refine lv_iload_n hx hb dX3_gatherSets_18 rfl (lv_at hl 2 rfl) ?_
      refine lv_aload_n hx hb dX3_gatherSets_19 rfl (lv_at hl 0 rfl) ?_
      refine gtX3_45 hx hb hts hown hK hW cz3 dX3_gatherSets_20 ?_
      refine gtX3_59 hx hb hts hown hK hW cz5 dX3_gatherSets_23 ?_
      refine lv_icmp_ge (tgt := 139) hx hb dX3_gatherSets_26 (by decide) (fun c7 => ?_) (fun c7 => ?_)
      · replace h := sh_t c7 h
        refine lv_iload_n hx hb dX3_gatherSets_139 rfl (lv_at hl 1 rfl) ?_
        exact tb_iretE h hx hb hr hS hW hlk dX3_gatherSets_140
      · replace h := sh_f c7 h
        refine lv_iload_n hx hb dX3_gatherSets_29 rfl (lv_at hl 1 rfl) ?_
        refine lv_aload_n hx hb dX3_gatherSets_30 rfl (lv_at hl 0 rfl) ?_
        refine gtX3_21 hx hb hts hown hK hW cz3 dX3_gatherSets_31 ?_
        refine tb_alen (v := (1024 : Int32)) hx hb hK hW 28 (by decide) (by decide) rfl cz28 (by decide) dX3_gatherSets_34 ?_
        refine lv_icmp_ge (tgt := 139) hx hb dX3_gatherSets_35 (by decide) (fun c8 => ?_) (fun c8 => ?_)
        · replace h := sh_t c8 h
          refine lv_iload_n hx hb dX3_gatherSets_139 rfl (lv_at hl 1 rfl) ?_
          exact tb_iretE h hx hb hr hS hW hlk dX3_gatherSets_140
        · replace h := sh_f c8 h
          refine lv_aload_n hx hb dX3_gatherSets_38 rfl (lv_at hl 0 rfl) ?_
          refine gtX3_45 hx hb hts hown hK hW cz3 dX3_gatherSets_39 ?_
          refine gtX3_62 hx hb hts hown hK hW cz5 dX3_gatherSets_42 ?_
          refine lv_iload_n hx hb dX3_gatherSets_45 rfl (lv_at hl 2 rfl) ?_
          replace h := ix_a h
          obtain ⟨hj, h⟩ := h
          refine al32 hx hb hK hW cz32 hj dX3_gatherSets_46 (fun o9 eo9 ho9 => ?_)
          replace h := nm_a eo9 h
          refine tb_astore_n (lv' := [(3, rv (ad 8) o9), (0, .ref (ad 3 0)), (1, .int i4), (2, .int i5)]) hx hb dX3_gatherSets_47 rfl hl (by decide) rfl (fun ls hl => ?_)
          refine lv_aload_n hx hb dX3_gatherSets_48 rfl (lv_at hl 1 rfl) ?_
          refine gtX3_45 hx hb hts hown hK hW cz3 dX3_gatherSets_49 ?_
          refine tb_aload_n hx hb dX3_gatherSets_52 rfl (lv_at hl 0 rfl) ?_
          replace h := bd_a h
          obtain ⟨b10, hcb10, h⟩ := h
          refine tb_cVZ hZk hx hb hml hown hts hK hZ hW hS [rv (ad 8) o9] (mX5_isStill (l := l) hZk o9 M6 ho9 b10 hcb10) pmX5_isStill tw789 (Wd.recv hK hW (t := 5) (by decide) cz5 (C := RX5) (T := TX5) (N := 7) rfl) ⟨Nat.le_of_ble_eq_true rfl, Nat.le_of_ble_eq_true rfl⟩ rfl hl.1 (Nat.le_of_ble_eq_true rfl) ⟨Nat.le_refl _, Nat.le_refl _⟩ rfl dX3_gatherSets_53 (fun H locs hW hS hzz => ?_)
          have hzb10 := hzz
          refine lv_if_eq (tgt := 133) hx hb dX3_gatherSets_56 (by decide) (fun c11 => ?_) (fun c11 => ?_)
          · replace h := sh_t c11 h
            obtain ⟨v12, ev12⟩ : ∃ y : Int32, y = i5 + (1 : Int32) := ⟨_, rfl⟩
            replace h := nm_a ev12 h
            refine lv_iinc (v := v12) (lv' := [(2, .int v12), (3, rv (ad 8) o9), (0, .ref (ad 3 0)), (1, .int i4)]) hx hb dX3_gatherSets_133 hl (k := 3) rfl (by rw [ev12]; rfl) (by decide) rfl (fun ls hl => ?_)
            refine lv_goto (tgt := 18) hx hb dX3_gatherSets_136 (by decide) ?_
            exact ih3 i4 v12 M6 _ _ _ hW hS (lv_sub hl [2, 3, 0] rfl) h
          · replace h := sh_f c11 h
            refine lv_aload_n hx hb dX3_gatherSets_59 rfl (lv_at hl 1 rfl) ?_
            refine gtX3_45 hx hb hts hown hK hW cz3 dX3_gatherSets_60 ?_
            refine lv_iload_n hx hb dX3_gatherSets_63 rfl (lv_at hl 3 rfl) ?_
            replace h := bd_a h
            obtain ⟨g13, hcg13, h⟩ := h
            refine tb_cVL hZk hx hb hml hown hts hK hZ hW hS [.int i5] (mX5_above (l := l) hZk i5 M6 g13 hcg13) pmX5_above tw1025 (Wd.recv hK hW (t := 5) (by decide) cz5 (C := RX5) (T := TX5) (N := 7) rfl) ⟨Nat.le_of_ble_eq_true rfl, Nat.le_of_ble_eq_true rfl⟩ rfl hl.1 (Nat.le_of_ble_eq_true rfl) ⟨Nat.le_refl _, Nat.le_refl _⟩ rfl dX3_gatherSets_64 (fun H locs hW hS => ?_)
            refine lv_iload_n hx hb dX3_gatherSets_67 rfl (lv_at hl 3 rfl) ?_
            refine tb_cNL hZk hx hb hml hown hts hK hZ hW hS [.int i5] (mX11_bit (l := l) hZk i5 M6 (fX11_bit i5) rfl) pmX11_bit (hZ.2.2.2.2.2.1 13 _ rfl) ⟨Nat.le_of_ble_eq_true rfl, Nat.le_of_ble_eq_true rfl⟩ rfl hl.1 (Nat.le_of_ble_eq_true rfl) ⟨Nat.le_refl _, Nat.le_refl _⟩ rfl dX3_gatherSets_68 (fun H locs hW hS => ?_)
            refine lv_lor hx hb dX3_gatherSets_71 ?_
            refine lv_topl (fun v14 ev14 => ?_)
            replace h := nm_a ev14 h
            refine lv_lstore (lv' := [(4, .long v14), (3, rv (ad 8) o9), (0, .ref (ad 3 0)), (1, .int i4), (2, .int i5)]) hx hb dX3_gatherSets_72 hl (by decide) (by simp [List.filter, rv_cat]) (fun ls hl => ?_)
            refine lv_iconst (v := (0 : Int32)) hx hb dX3_gatherSets_74 (by decide) ?_
            refine lv_istore (lv' := [(6, .int (0 : Int32)), (4, .long v14), (3, rv (ad 8) o9), (0, .ref (ad 3 0)), (1, .int i4), (2, .int i5)]) hx hb dX3_gatherSets_75 hl (by decide) rfl (fun ls hl => ?_)
            have L15 : ∀ (n15 : Nat) (i16 : Int32) (M17 : Mem) (H : Heap) (locs : List Loc) (ls : Array Slot), Wd D cy A (cnC nS nL) ad M17 H → va_S A s.heap H locs → lv_has ls 7 [(0, .ref (ad 3 0)), (1, .int i4), (2, .int i5), (3, rv (ad 8) o9), (4, .long v14), (6, .int i16)] → fX3_gatherSets_l77 i4 i5 (fX3_gatherSets_l18 n3) v14 o9 n15 i16 M17 = some (r, M') → W p l e (rm 2 46) s m args below meth c H locs 0 0 (MQ below (QI D cy A (cnC nS nL) ad r M') args s 0 0 A) (F0 m 77 ls []) := by
              intro n15
              induction n15 with
              | zero => intro i16 M17 H locs ls hW hS hl h; cases h
              | succ n15 ih15 =>
                intro i16 M17 H locs ls hW hS hl h
                unfold fX3_gatherSets_l77 fX3_gatherSets_b77 at h
                refine lv_iload hx hb dX3_gatherSets_77 (lv_at hl 5 rfl) ?_
                refine lv_iload_n hx hb dX3_gatherSets_79 rfl (lv_at hl 1 rfl) ?_
                refine lv_icmp_ge (tgt := 129) hx hb dX3_gatherSets_80 (by decide) (fun c18 => ?_) (fun c18 => ?_)
                · replace h := sh_t c18 h
                  refine lv_iload_n hx hb dX3_gatherSets_129 rfl (lv_at hl 1 rfl) ?_
                  refine lv_iconst (v := (2 : Int32)) hx hb dX3_gatherSets_130 (by decide) ?_
                  refine lv_imul hx hb dX3_gatherSets_131 ?_
                  refine lv_topi (fun v19 ev19 => ?_)
                  replace h := nm_a ev19 h
                  refine lv_istore_n (lv' := [(1, .int v19), (0, .ref (ad 3 0)), (2, .int i5), (3, rv (ad 8) o9), (4, .long v14), (6, .int i16)]) hx hb dX3_gatherSets_132 rfl hl (by decide) rfl (fun ls hl => ?_)
                  obtain ⟨v20, ev20⟩ : ∃ y : Int32, y = i5 + (1 : Int32) := ⟨_, rfl⟩
                  replace h := nm_a ev20 h
                  refine lv_iinc (v := v20) (lv' := [(2, .int v20), (1, .int v19), (0, .ref (ad 3 0)), (3, rv (ad 8) o9), (4, .long v14), (6, .int i16)]) hx hb dX3_gatherSets_133 hl (k := 2) rfl (by rw [ev20]; rfl) (by decide) rfl (fun ls hl => ?_)
                  refine lv_goto (tgt := 18) hx hb dX3_gatherSets_136 (by decide) ?_
                  exact ih3 v19 v20 M17 _ _ _ hW hS (lv_sub hl [2, 1, 0] rfl) h
                · replace h := sh_f c18 h
                  refine lv_aload_n hx hb dX3_gatherSets_83 rfl (lv_at hl 0 rfl) ?_
                  refine gtX3_21 hx hb hts hown hK hW cz3 dX3_gatherSets_84 ?_
                  refine lv_iload_n hx hb dX3_gatherSets_87 rfl (lv_at hl 1 rfl) ?_
                  refine lv_iload hx hb dX3_gatherSets_88 (lv_at hl 5 rfl) ?_
                  refine lv_iadd hx hb dX3_gatherSets_90 ?_
                  refine lv_aload_n hx hb dX3_gatherSets_91 rfl (lv_at hl 0 rfl) ?_
                  refine gtX3_21 hx hb hts hown hK hW cz3 dX3_gatherSets_92 ?_
                  refine lv_iload hx hb dX3_gatherSets_95 (lv_at hl 5 rfl) ?_
                  replace h := ix_a h
                  obtain ⟨hj, h⟩ := h
                  refine al28 hx hb hK hW cz28 hj dX3_gatherSets_97 ?_
                  refine lv_lload hx hb dX3_gatherSets_98 (lv_at hl 4 rfl) ?_
                  refine lv_lor hx hb dX3_gatherSets_100 ?_
                  refine lv_topl (fun v21 ev21 => ?_)
                  replace h := nm_a ev21 h
                  replace h := ix_a h
                  obtain ⟨hj, h⟩ := h
                  refine as28 hx hb hK hW hS cz28 hj dX3_gatherSets_101 (fun H locs hW hS => ?_)
                  obtain ⟨M22, eM22⟩ : ∃ y, y = msL M17 2800 0 ((i4 + i16).toNatClampNeg) v21 := ⟨_, rfl⟩
                  replace h := nm_a eM22 h
                  rw [← eM22] at hW
                  refine lv_aload_n hx hb dX3_gatherSets_102 rfl (lv_at hl 0 rfl) ?_
                  refine gtX3_25 hx hb hts hown hK hW cz3 dX3_gatherSets_103 ?_
                  refine lv_iload_n hx hb dX3_gatherSets_106 rfl (lv_at hl 1 rfl) ?_
                  refine lv_iload hx hb dX3_gatherSets_107 (lv_at hl 5 rfl) ?_
                  refine lv_iadd hx hb dX3_gatherSets_109 ?_
                  refine lv_aload_n hx hb dX3_gatherSets_110 rfl (lv_at hl 0 rfl) ?_
                  refine gtX3_25 hx hb hts hown hK hW cz3 dX3_gatherSets_111 ?_
                  refine lv_iload hx hb dX3_gatherSets_114 (lv_at hl 5 rfl) ?_
                  replace h := ix_a h
                  obtain ⟨hj, h⟩ := h
                  refine al29 hx hb hK hW cz29 hj dX3_gatherSets_116 ?_
                  refine tb_aload_n hx hb dX3_gatherSets_117 rfl (lv_at hl 3 rfl) ?_
                  replace h := oc_d h
                  obtain ⟨a23, ea23, h⟩ := h
                  subst ea23
                  have la23 := ho9 _ rfl
                  refine gtX3_165 hx hb hts hown hK hW la23 dX3_gatherSets_118 ?_
                  refine lv_iadd hx hb dX3_gatherSets_121 ?_
                  refine lv_topi (fun v24 ev24 => ?_)
                  replace h := nm_a ev24 h
                  replace h := ix_a h
                  obtain ⟨hj, h⟩ := h
                  refine as29 hx hb hK hW hS cz29 hj dX3_gatherSets_122 (fun H locs hW hS => ?_)
                  obtain ⟨M25, eM25⟩ : ∃ y, y = msI M22 2900 0 ((i4 + i16).toNatClampNeg) v24 := ⟨_, rfl⟩
                  replace h := nm_a eM25 h
                  rw [← eM25] at hW
                  obtain ⟨v26, ev26⟩ : ∃ y : Int32, y = i16 + (1 : Int32) := ⟨_, rfl⟩
                  replace h := nm_a ev26 h
                  refine lv_iinc (v := v26) (lv' := [(6, .int v26), (0, .ref (ad 3 0)), (1, .int i4), (2, .int i5), (3, .ref (ad 8 a23)), (4, .long v14)]) hx hb dX3_gatherSets_123 hl (k := 5) rfl (by rw [ev26]; rfl) (by decide) rfl (fun ls hl => ?_)
                  refine lv_goto (tgt := 77) hx hb dX3_gatherSets_126 (by decide) ?_
                  exact ih15 v26 M25 _ _ _ hW hS (lv_sub hl [1, 2, 3, 4, 5, 0] rfl) h
            exact L15 FU (0 : Int32) M6 _ _ _ hW hS (lv_sub hl [3, 4, 5, 2, 1, 0] rfl) h
  exact L3 FU (1 : Int32) (0 : Int32) M2 _ _ _ hW hS (lv_sub hl [2, 1, 0] rfl) h
def fX3_isBetter (x1 : Int32) (x2 : Int32) (M0 : Mem) : Option Int32 :=
  ix x1 1024 <| ix x2 1024 <| nm ((fJ13_bitCount_95d88 (mgL M0 2800 0 x1.toNatClampNeg)) - (fJ13_bitCount_95d88 (mgL M0 2800 0 x2.toNatClampNeg))) fun v1 => if 0 < v1 then (some (1 : Int32)) else (if v1 = 0 then (ix x1 1024 <| ix x2 1024 <| if (mgI M0 2900 0 x2.toNatClampNeg) ≤ (mgI M0 2900 0 x1.toNatClampNeg) then (some (0 : Int32)) else (some (1 : Int32))) else (some (0 : Int32)))
set_option maxHeartbeats 4000000 in
set_option maxRecDepth 100000 in
theorem mX3_isBetter {l : Launch} {D : va_G} {cy : Nat → ClassId} {A : Nat → Prop} {K : KC} {nS nL : Nat} {ad : Nat → Nat → Nat} (hZk : ZOK A (ZC A K)) (x1 : Int32) (x2 : Int32) (M0 : Mem) (r : Int32) (h : fX3_isBetter x1 x2 M0 = some r) : Met l yX3_isBetter (wt yX3_isBetter cX3_isBetter 4 (some .boolean)) (rm 1 21) (CPre D cy A (ZC A K) (cnC nS nL) ad M0 [.ref (ad 3 0), .int x1, .int x2]) (QZ D cy A (cnC nS nL) ad r M0) 0 0 A := by
  refine tb_start [.ref (ad 3 0), .int x1, .int x2] [(0, .ref (ad 3 0)), (1, .int x1), (2, .int x2)] RX3 rfl (by decide +kernel) (Nat.le_of_ble_eq_true rfl) rfl (fun p e s m args below meth c hx hb hr hml hown hts hlk hW hK hZ ls hl => ?_)
  have hS : va_S A s.heap s.heap [] := va_S.rf
  unfold fX3_isBetter at h
  refine lv_aload_n hx hb dX3_isBetter_0 rfl (lv_at hl 0 rfl) ?_
  refine gtX3_21 hx hb hts hown hK hW cz3 dX3_isBetter_1 ?_
  refine lv_iload_n hx hb dX3_isBetter_4 rfl (lv_at hl 1 rfl) ?_
  replace h := ix_a h
  obtain ⟨hj, h⟩ := h
  refine al28 hx hb hK hW cz28 hj dX3_isBetter_5 ?_
  refine tb_cSI hZk hx hb hml hown hts hK hZ hW hS [.long (mgL M0 2800 0 x1.toNatClampNeg)] (mJ13_bitCount_95d88 (l := l) hZk (mgL M0 2800 0 x1.toNatClampNeg) M0 (fJ13_bitCount_95d88 (mgL M0 2800 0 x1.toNatClampNeg)) rfl) pmJ13_bitCount_95d88 tw820 ⟨Nat.le_of_ble_eq_true rfl, Nat.le_of_ble_eq_true rfl⟩ rfl hl.1 (Nat.le_of_ble_eq_true rfl) ⟨Nat.le_refl _, Nat.le_refl _⟩ rfl dX3_isBetter_6 (fun H locs hW hS => ?_)
  refine lv_aload_n hx hb dX3_isBetter_9 rfl (lv_at hl 0 rfl) ?_
  refine gtX3_21 hx hb hts hown hK hW cz3 dX3_isBetter_10 ?_
  refine lv_iload_n hx hb dX3_isBetter_13 rfl (lv_at hl 2 rfl) ?_
  replace h := ix_a h
  obtain ⟨hj, h⟩ := h
  refine al28 hx hb hK hW cz28 hj dX3_isBetter_14 ?_
  refine tb_cSI hZk hx hb hml hown hts hK hZ hW hS [.long (mgL M0 2800 0 x2.toNatClampNeg)] (mJ13_bitCount_95d88 (l := l) hZk (mgL M0 2800 0 x2.toNatClampNeg) M0 (fJ13_bitCount_95d88 (mgL M0 2800 0 x2.toNatClampNeg)) rfl) pmJ13_bitCount_95d88 tw820 ⟨Nat.le_of_ble_eq_true rfl, Nat.le_of_ble_eq_true rfl⟩ rfl hl.1 (Nat.le_of_ble_eq_true rfl) ⟨Nat.le_refl _, Nat.le_refl _⟩ rfl dX3_isBetter_15 (fun H locs hW hS => ?_)
  refine lv_isub hx hb dX3_isBetter_18 ?_
  refine lv_topi (fun v1 ev1 => ?_)
  replace h := nm_a ev1 h
  refine lv_istore_n (lv' := [(3, .int v1), (0, .ref (ad 3 0)), (1, .int x1), (2, .int x2)]) hx hb dX3_isBetter_19 rfl hl (by decide) rfl (fun ls hl => ?_)
  refine lv_iload_n hx hb dX3_isBetter_20 rfl (lv_at hl 0 rfl) ?_
  refine lv_if_gt (tgt := 43) hx hb dX3_isBetter_21 (by decide) (fun c2 => ?_) (fun c2 => ?_)
  · replace h := sh_t c2 h
    refine lv_iconst (v := (1 : Int32)) hx hb dX3_isBetter_43 (by decide) ?_
    refine lv_goto (tgt := 48) hx hb dX3_isBetter_44 (by decide) ?_
    exact tb_zretO h hx hb hr hS hW hlk (by decide) dX3_isBetter_48
  · replace h := sh_f c2 h
    refine lv_iload_n hx hb dX3_isBetter_24 rfl (lv_at hl 0 rfl) ?_
    refine lv_if_ne (tgt := 47) hx hb dX3_isBetter_25 (by decide) (fun c3 => ?_) (fun c3 => ?_)
    · replace h := sh_f c3 h
      refine lv_iconst (v := (0 : Int32)) hx hb dX3_isBetter_47 (by decide) ?_
      exact tb_zretO h hx hb hr hS hW hlk (by decide) dX3_isBetter_48
    · replace h := sh_t c3 h
      refine lv_aload_n hx hb dX3_isBetter_28 rfl (lv_at hl 1 rfl) ?_
      refine gtX3_25 hx hb hts hown hK hW cz3 dX3_isBetter_29 ?_
      refine lv_iload_n hx hb dX3_isBetter_32 rfl (lv_at hl 2 rfl) ?_
      replace h := ix_a h
      obtain ⟨hj, h⟩ := h
      refine al29 hx hb hK hW cz29 hj dX3_isBetter_33 ?_
      refine lv_aload_n hx hb dX3_isBetter_34 rfl (lv_at hl 1 rfl) ?_
      refine gtX3_25 hx hb hts hown hK hW cz3 dX3_isBetter_35 ?_
      refine lv_iload_n hx hb dX3_isBetter_38 rfl (lv_at hl 3 rfl) ?_
      replace h := ix_a h
      obtain ⟨hj, h⟩ := h
      refine al29 hx hb hK hW cz29 hj dX3_isBetter_39 ?_
      refine lv_icmp_ge (tgt := 47) hx hb dX3_isBetter_40 (by decide) (fun c4 => ?_) (fun c4 => ?_)
      · replace h := sh_t c4 h
        refine lv_iconst (v := (0 : Int32)) hx hb dX3_isBetter_47 (by decide) ?_
        exact tb_zretO h hx hb hr hS hW hlk (by decide) dX3_isBetter_48
      · replace h := sh_f c4 h
        refine lv_iconst (v := (1 : Int32)) hx hb dX3_isBetter_43 (by decide) ?_
        refine lv_goto (tgt := 48) hx hb dX3_isBetter_44 (by decide) ?_
        exact tb_zretO h hx hb hr hS hW hlk (by decide) dX3_isBetter_48
def fX3_bestSet_b10 (b1 : Int32) (M2 : Mem) (x1 : Int32) (k3 : Int32 → Int32 → Option (Int32 × Mem)) (i4 : Int32) (i5 : Int32) : Option (Int32 × Mem) :=
  if b1 ≤ i5 then (some (i4, M2)) else (ix i5 1024 <| if x1 < (mgI M2 2900 0 i5.toNatClampNeg) then (nm (i5 + (1 : Int32)) fun v8 => k3 i4 v8) else (bd (fX3_isBetter i5 i4 M2) fun b9 => if b9 = 0 then (nm (i5 + (1 : Int32)) fun v11 => k3 i4 v11) else (nm (i5 + (1 : Int32)) fun v12 => k3 i5 v12)))
def fX3_bestSet_l10 (b1 : Int32) (M2 : Mem) (x1 : Int32) : Nat → Int32 → Int32 → Option (Int32 × Mem)
  | 0, _, _ => none
  | n + 1, i4, i5 => fX3_bestSet_b10 b1 M2 x1 (fX3_bestSet_l10 b1 M2 x1 n) i4 i5
def fX3_bestSet (x1 : Int32) (M0 : Mem) : Option (Int32 × Mem) :=
  bE (fX3_gatherSets M0) fun b1 M2 => fX3_bestSet_l10 b1 M2 x1 FU (0 : Int32) (1 : Int32)
set_option maxHeartbeats 4000000 in
set_option maxRecDepth 100000 in
theorem mX3_bestSet {l : Launch} {D : va_G} {cy : Nat → ClassId} {A : Nat → Prop} {K : KC} {nS nL : Nat} {ad : Nat → Nat → Nat} (hZk : ZOK A (ZC A K)) (x1 : Int32) (M0 : Mem) (r : Int32) (M' : Mem) (h : fX3_bestSet x1 M0 = some (r, M')) : Met l yX3_bestSet (wt yX3_bestSet cX3_bestSet 5 (some .int)) (rm 3 72) (CPre D cy A (ZC A K) (cnC nS nL) ad M0 [.ref (ad 3 0), .int x1]) (QI D cy A (cnC nS nL) ad r M') 0 0 A := by
  refine tb_start [.ref (ad 3 0), .int x1] [(0, .ref (ad 3 0)), (1, .int x1)] RX3 rfl (by decide +kernel) (Nat.le_of_ble_eq_true rfl) rfl (fun p e s m args below meth c hx hb hr hml hown hts hlk hW hK hZ ls hl => ?_)
  have hS : va_S A s.heap s.heap [] := va_S.rf
  unfold fX3_bestSet at h
  refine lv_aload_n hx hb dX3_bestSet_0 rfl (lv_at hl 0 rfl) ?_
  replace h := bE_a h
  obtain ⟨b1, M2, hcb1, h⟩ := h
  refine tb_cVI hZk hx hb hml hown hts hK hZ hW hS [] (mX3_gatherSets (l := l) hZk M0 b1 M2 hcb1) pmX3_gatherSets tw1021 (Wd.recv hK hW (t := 3) (by decide) cz3 (C := RX3) (T := TX3) (N := 10) rfl) ⟨Nat.le_of_ble_eq_true rfl, Nat.le_of_ble_eq_true rfl⟩ rfl hl.1 (Nat.le_of_ble_eq_true rfl) ⟨Nat.le_refl _, Nat.le_refl _⟩ rfl dX3_bestSet_1 (fun H locs hW hS => ?_)
  refine lv_istore_n (lv' := [(2, .int b1), (0, .ref (ad 3 0)), (1, .int x1)]) hx hb dX3_bestSet_4 rfl hl (by decide) rfl (fun ls hl => ?_)
  refine lv_iconst (v := (0 : Int32)) hx hb dX3_bestSet_5 (by decide) ?_
  refine lv_istore_n (lv' := [(3, .int (0 : Int32)), (2, .int b1), (0, .ref (ad 3 0)), (1, .int x1)]) hx hb dX3_bestSet_6 rfl hl (by decide) rfl (fun ls hl => ?_)
  refine lv_iconst (v := (1 : Int32)) hx hb dX3_bestSet_7 (by decide) ?_
  refine lv_istore (lv' := [(4, .int (1 : Int32)), (3, .int (0 : Int32)), (2, .int b1), (0, .ref (ad 3 0)), (1, .int x1)]) hx hb dX3_bestSet_8 hl (by decide) rfl (fun ls hl => ?_)
  have L3 : ∀ (n3 : Nat) (i4 : Int32) (i5 : Int32) (H : Heap) (locs : List Loc) (ls : Array Slot), Wd D cy A (cnC nS nL) ad M2 H → va_S A s.heap H locs → lv_has ls 5 [(0, .ref (ad 3 0)), (1, .int x1), (2, .int b1), (3, .int i4), (4, .int i5)] → fX3_bestSet_l10 b1 M2 x1 n3 i4 i5 = some (r, M') → W p l e (rm 3 72) s m args below meth c H locs 0 0 (MQ below (QI D cy A (cnC nS nL) ad r M') args s 0 0 A) (F0 m 10 ls []) := by
    intro n3
    induction n3 with
    | zero => intro i4 i5 H locs ls hW hS hl h; cases h
    | succ n3 ih3 =>
      intro i4 i5 H locs ls hW hS hl h
      unfold fX3_bestSet_l10 fX3_bestSet_b10 at h
      refine lv_iload hx hb dX3_bestSet_10 (lv_at hl 4 rfl) ?_
      refine lv_iload_n hx hb dX3_bestSet_12 rfl (lv_at hl 2 rfl) ?_
      refine lv_icmp_ge (tgt := 46) hx hb dX3_bestSet_13 (by decide) (fun c6 => ?_) (fun c6 => ?_)
      · replace h := sh_t c6 h
        refine lv_iload_n hx hb dX3_bestSet_46 rfl (lv_at hl 3 rfl) ?_
        exact tb_iretE h hx hb hr hS hW hlk dX3_bestSet_47
      · replace h := sh_f c6 h
        refine lv_aload_n hx hb dX3_bestSet_16 rfl (lv_at hl 0 rfl) ?_
        refine gtX3_25 hx hb hts hown hK hW cz3 dX3_bestSet_17 ?_
        refine lv_iload hx hb dX3_bestSet_20 (lv_at hl 4 rfl) ?_
        replace h := ix_a h
        obtain ⟨hj, h⟩ := h
        refine al29 hx hb hK hW cz29 hj dX3_bestSet_22 ?_
        refine lv_iload_n hx hb dX3_bestSet_23 rfl (lv_at hl 1 rfl) ?_
        refine lv_icmp_gt (tgt := 40) hx hb dX3_bestSet_24 (by decide) (fun c7 => ?_) (fun c7 => ?_)
        · replace h := sh_t c7 h
          obtain ⟨v8, ev8⟩ : ∃ y : Int32, y = i5 + (1 : Int32) := ⟨_, rfl⟩
          replace h := nm_a ev8 h
          refine lv_iinc (v := v8) (lv' := [(4, .int v8), (0, .ref (ad 3 0)), (1, .int x1), (2, .int b1), (3, .int i4)]) hx hb dX3_bestSet_40 hl (k := 4) rfl (by rw [ev8]; rfl) (by decide) rfl (fun ls hl => ?_)
          refine lv_goto (tgt := 10) hx hb dX3_bestSet_43 (by decide) ?_
          exact ih3 i4 v8 _ _ _ hW hS (lv_sub hl [1, 2, 3, 4, 0] rfl) h
        · replace h := sh_f c7 h
          refine lv_aload_n hx hb dX3_bestSet_27 rfl (lv_at hl 0 rfl) ?_
          refine lv_iload hx hb dX3_bestSet_28 (lv_at hl 4 rfl) ?_
          refine lv_iload_n hx hb dX3_bestSet_30 rfl (lv_at hl 3 rfl) ?_
          replace h := bd_a h
          obtain ⟨b9, hcb9, h⟩ := h
          refine tb_cVZ hZk hx hb hml hown hts hK hZ hW hS [.int i5, .int i4] (mX3_isBetter (l := l) hZk i5 i4 M2 b9 hcb9) pmX3_isBetter tw1027 (Wd.recv hK hW (t := 3) (by decide) cz3 (C := RX3) (T := TX3) (N := 10) rfl) ⟨Nat.le_of_ble_eq_true rfl, Nat.le_of_ble_eq_true rfl⟩ rfl hl.1 (Nat.le_of_ble_eq_true rfl) ⟨Nat.le_refl _, Nat.le_refl _⟩ rfl dX3_bestSet_31 (fun H locs hW hS hzz => ?_)
          have hzb9 := hzz
          refine lv_if_eq (tgt := 40) hx hb dX3_bestSet_34 (by decide) (fun c10 => ?_) (fun c10 => ?_)
          · replace h := sh_t c10 h
            obtain ⟨v11, ev11⟩ : ∃ y : Int32, y = i5 + (1 : Int32) := ⟨_, rfl⟩
            replace h := nm_a ev11 h
            refine lv_iinc (v := v11) (lv' := [(4, .int v11), (0, .ref (ad 3 0)), (1, .int x1), (2, .int b1), (3, .int i4)]) hx hb dX3_bestSet_40 hl (k := 4) rfl (by rw [ev11]; rfl) (by decide) rfl (fun ls hl => ?_)
            refine lv_goto (tgt := 10) hx hb dX3_bestSet_43 (by decide) ?_
            exact ih3 i4 v11 _ _ _ hW hS (lv_sub hl [1, 2, 3, 4, 0] rfl) h
          · replace h := sh_f c10 h
            refine lv_iload hx hb dX3_bestSet_37 (lv_at hl 4 rfl) ?_
            refine lv_istore_n (lv' := [(3, .int i5), (0, .ref (ad 3 0)), (1, .int x1), (2, .int b1), (4, .int i5)]) hx hb dX3_bestSet_39 rfl hl (by decide) rfl (fun ls hl => ?_)
            obtain ⟨v12, ev12⟩ : ∃ y : Int32, y = i5 + (1 : Int32) := ⟨_, rfl⟩
            replace h := nm_a ev12 h
            refine lv_iinc (v := v12) (lv' := [(4, .int v12), (3, .int i5), (0, .ref (ad 3 0)), (1, .int x1), (2, .int b1)]) hx hb dX3_bestSet_40 hl (k := 4) rfl (by rw [ev12]; rfl) (by decide) rfl (fun ls hl => ?_)
            refine lv_goto (tgt := 10) hx hb dX3_bestSet_43 (by decide) ?_
            exact ih3 i5 v12 _ _ _ hW hS (lv_sub hl [2, 3, 4, 1, 0] rfl) h
  exact L3 FU (0 : Int32) (1 : Int32) _ _ _ hW hS (lv_sub hl [3, 4, 2, 1, 0] rfl) h
def fX5_stoneAt (x1 : Int32) (M0 : Mem) : Option (Option Nat) :=
  if x1 < 0 then (some none) else (if (mgI M0 502 0 0) ≤ x1 then (some none) else (ix x1 64 <| nm (mgR M0 3200 0 x1.toNatClampNeg) fun o3 => some o3))
set_option maxHeartbeats 4000000 in
set_option maxRecDepth 100000 in
theorem mX5_stoneAt {l : Launch} {D : va_G} {cy : Nat → ClassId} {A : Nat → Prop} {K : KC} {nS nL : Nat} {ad : Nat → Nat → Nat} (hZk : ZOK A (ZC A K)) (x1 : Int32) (M0 : Mem) (r : Option Nat) (h : fX5_stoneAt x1 M0 = some r) : Met l yX5_stoneAt (wt yX5_stoneAt cX5_stoneAt 2 (some (.object "TakenBack$Stone"))) (rm 0 0) (CPre D cy A (ZC A K) (cnC nS nL) ad M0 [.ref (ad 5 0), .int x1]) (QR 8 D cy A (cnC nS nL) ad r M0) 0 0 A := by
  refine tb_start [.ref (ad 5 0), .int x1] [(0, .ref (ad 5 0)), (1, .int x1)] RX5 rfl (by decide +kernel) (Nat.le_of_ble_eq_true rfl) rfl (fun p e s m args below meth c hx hb hr hml hown hts hlk hW hK hZ ls hl => ?_)
  have hS : va_S A s.heap s.heap [] := va_S.rf
  unfold fX5_stoneAt at h
  refine lv_iload_n hx hb dX5_stoneAt_0 rfl (lv_at hl 1 rfl) ?_
  refine lv_if_lt (tgt := 21) hx hb dX5_stoneAt_1 (by decide) (fun c1 => ?_) (fun c1 => ?_)
  · replace h := sh_t c1 h
    refine lv_null hx hb dX5_stoneAt_21 ?_
    exact tb_rretO (v := none) h (fun z hz => by cases hz) hx hb hr (by first | exact Or.inl ⟨_, rfl⟩ | exact Or.inr ⟨_, rfl⟩) hS hW hlk dX5_stoneAt_22
  · replace h := sh_f c1 h
    refine lv_iload_n hx hb dX5_stoneAt_4 rfl (lv_at hl 1 rfl) ?_
    refine lv_aload_n hx hb dX5_stoneAt_5 rfl (lv_at hl 0 rfl) ?_
    refine gtX5_27 hx hb hts hown hK hW cz5 dX5_stoneAt_6 ?_
    refine lv_icmp_ge (tgt := 21) hx hb dX5_stoneAt_9 (by decide) (fun c2 => ?_) (fun c2 => ?_)
    · replace h := sh_t c2 h
      refine lv_null hx hb dX5_stoneAt_21 ?_
      exact tb_rretO (v := none) h (fun z hz => by cases hz) hx hb hr (by first | exact Or.inl ⟨_, rfl⟩ | exact Or.inr ⟨_, rfl⟩) hS hW hlk dX5_stoneAt_22
    · replace h := sh_f c2 h
      refine lv_aload_n hx hb dX5_stoneAt_12 rfl (lv_at hl 0 rfl) ?_
      refine gtX5_11 hx hb hts hown hK hW cz5 dX5_stoneAt_13 ?_
      refine lv_iload_n hx hb dX5_stoneAt_16 rfl (lv_at hl 1 rfl) ?_
      replace h := ix_a h
      obtain ⟨hj, h⟩ := h
      refine al32 hx hb hK hW cz32 hj dX5_stoneAt_17 (fun o3 eo3 ho3 => ?_)
      replace h := nm_a eo3 h
      refine lv_goto (tgt := 22) hx hb dX5_stoneAt_18 (by decide) ?_
      exact tb_rretO (v := o3) h ho3 hx hb hr (by first | exact Or.inl ⟨_, rfl⟩ | exact Or.inr ⟨_, rfl⟩) hS hW hlk dX5_stoneAt_22
def fX5_mayStand (x1 : Option Nat) (x2 : Int32) (M0 : Mem) : Option Int32 :=
  oc x1 none fun a1 => if (mgI M0 801 a1 0) = (1 : Int32) then (some (0 : Int32)) else (if x2 < 0 then (some (0 : Int32)) else (if (mgI M0 800 a1 0) ≤ x2 then (some (0 : Int32)) else (nm (fX11_isIn (mgL M0 814 a1 0) x2) fun b5 => if b5 = 0 then (some (1 : Int32)) else (some (0 : Int32)))))
set_option maxHeartbeats 4000000 in
set_option maxRecDepth 100000 in
theorem mX5_mayStand {l : Launch} {D : va_G} {cy : Nat → ClassId} {A : Nat → Prop} {K : KC} {nS nL : Nat} {ad : Nat → Nat → Nat} (hZk : ZOK A (ZC A K)) (x1 : Option Nat) (x2 : Int32) (M0 : Mem) (hx1 : ∀ z, x1 = some z → z < (cnC nS nL) 8) (r : Int32) (h : fX5_mayStand x1 x2 M0 = some r) : Met l yX5_mayStand (wt yX5_mayStand cX5_mayStand 3 (some .boolean)) (rm 1 22) (CPre D cy A (ZC A K) (cnC nS nL) ad M0 [.ref (ad 5 0), rv (ad 8) x1, .int x2]) (QZ D cy A (cnC nS nL) ad r M0) 0 0 A := by
  refine tb_start [.ref (ad 5 0), rv (ad 8) x1, .int x2] [(0, .ref (ad 5 0)), (1, rv (ad 8) x1), (2, .int x2)] RX5 rfl (by decide +kernel) (by simp [lg_sl, List.flatMap_cons, rv_cat, cat_r, cat_i, cat_l]) (by simp [lv_args, rv_cat, cat_r, cat_i, cat_l]) (fun p e s m args below meth c hx hb hr hml hown hts hlk hW hK hZ ls hl => ?_)
  have hS : va_S A s.heap s.heap [] := va_S.rf
  unfold fX5_mayStand at h
  refine tb_aload_n hx hb dX5_mayStand_0 rfl (lv_at hl 1 rfl) ?_
  replace h := oc_d h
  obtain ⟨a1, ea1, h⟩ := h
  subst ea1
  have la1 := hx1 _ rfl
  refine gtX5_40 hx hb hts hown hK hW la1 dX5_mayStand_1 ?_
  refine lv_iconst (v := (1 : Int32)) hx hb dX5_mayStand_4 (by decide) ?_
  refine lv_icmp_eq (tgt := 35) hx hb dX5_mayStand_5 (by decide) (fun c2 => ?_) (fun c2 => ?_)
  · replace h := sh_t c2 h
    refine lv_iconst (v := (0 : Int32)) hx hb dX5_mayStand_35 (by decide) ?_
    exact tb_zretO h hx hb hr hS hW hlk (by decide) dX5_mayStand_36
  · replace h := sh_f c2 h
    refine lv_iload_n hx hb dX5_mayStand_8 rfl (lv_at hl 2 rfl) ?_
    refine lv_if_lt (tgt := 35) hx hb dX5_mayStand_9 (by decide) (fun c3 => ?_) (fun c3 => ?_)
    · replace h := sh_t c3 h
      refine lv_iconst (v := (0 : Int32)) hx hb dX5_mayStand_35 (by decide) ?_
      exact tb_zretO h hx hb hr hS hW hlk (by decide) dX5_mayStand_36
    · replace h := sh_f c3 h
      refine lv_iload_n hx hb dX5_mayStand_12 rfl (lv_at hl 2 rfl) ?_
      refine lv_aload_n hx hb dX5_mayStand_13 rfl (lv_at hl 1 rfl) ?_
      refine gtX5_43 hx hb hts hown hK hW la1 dX5_mayStand_14 ?_
      refine lv_icmp_ge (tgt := 35) hx hb dX5_mayStand_17 (by decide) (fun c4 => ?_) (fun c4 => ?_)
      · replace h := sh_t c4 h
        refine lv_iconst (v := (0 : Int32)) hx hb dX5_mayStand_35 (by decide) ?_
        exact tb_zretO h hx hb hr hS hW hlk (by decide) dX5_mayStand_36
      · replace h := sh_f c4 h
        refine lv_aload_n hx hb dX5_mayStand_20 rfl (lv_at hl 1 rfl) ?_
        refine gtX5_46 hx hb hts hown hK hW la1 dX5_mayStand_21 ?_
        refine lv_iload_n hx hb dX5_mayStand_24 rfl (lv_at hl 2 rfl) ?_
        refine tb_cNZ hZk hx hb hml hown hts hK hZ hW hS [.long (mgL M0 814 a1 0), .int x2] (mX11_isIn (l := l) hZk (mgL M0 814 a1 0) x2 M0 (fX11_isIn (mgL M0 814 a1 0) x2) rfl) pmX11_isIn (hZ.2.2.2.2.2.1 6 _ rfl) ⟨Nat.le_of_ble_eq_true rfl, Nat.le_of_ble_eq_true rfl⟩ rfl hl.1 (Nat.le_of_ble_eq_true rfl) ⟨Nat.le_refl _, Nat.le_refl _⟩ rfl dX5_mayStand_25 (fun H locs hW hS hzz => ?_)
        refine lv_topi (fun b5 eb5 => ?_)
        replace h := nm_a eb5 h
        have hzb5 : b5 = 0 ∨ b5 = 1 := by rw [eb5]; exact hzz
        refine lv_if_ne (tgt := 35) hx hb dX5_mayStand_28 (by decide) (fun c6 => ?_) (fun c6 => ?_)
        · replace h := sh_f c6 h
          refine lv_iconst (v := (0 : Int32)) hx hb dX5_mayStand_35 (by decide) ?_
          exact tb_zretO h hx hb hr hS hW hlk (by decide) dX5_mayStand_36
        · replace h := sh_t c6 h
          refine lv_iconst (v := (1 : Int32)) hx hb dX5_mayStand_31 (by decide) ?_
          refine lv_goto (tgt := 36) hx hb dX5_mayStand_32 (by decide) ?_
          exact tb_zretO h hx hb hr hS hW hlk (by decide) dX5_mayStand_36
def fX5_longestWay_b8 (M0 : Mem) (x2 : Int32) (k3 : Int32 → (Option Nat) → Option Int32) (i4 : Int32) (o5 : Option Nat) : Option Int32 :=
  oc o5 (some i4) fun a6 => if (mgI M0 405 a6 0) = 0 then (if (mgI M0 401 a6 0) = x2 then (nm (if i4 < (1 : Int32) then (1 : Int32) else i4) fun v27 => nm (mgR M0 402 a6 0) fun o28 => k3 v27 o28) else (if (mgI M0 405 a6 0) = 0 then (ix (mgI M0 401 a6 0) 64 <| nm (mgR M0 3200 0 (mgI M0 401 a6 0).toNatClampNeg) fun o20 => oc o20 none fun a21 => nm (fX11_isIn (mgL M0 815 a21 0) x2) fun b22 => if b22 = 0 then (nm (mgR M0 402 a6 0) fun o24 => k3 i4 o24) else (ix (mgI M0 401 a6 0) 64 <| nm (if i4 < ((mgI M0 3400 0 (mgI M0 401 a6 0).toNatClampNeg) + (1 : Int32)) then ((mgI M0 3400 0 (mgI M0 401 a6 0).toNatClampNeg) + (1 : Int32)) else i4) fun v25 => nm (mgR M0 402 a6 0) fun o26 => k3 v25 o26)) else (nm (mgR M0 402 a6 0) fun o19 => k3 i4 o19))) else (if (mgI M0 405 a6 0) = 0 then (ix (mgI M0 401 a6 0) 64 <| nm (mgR M0 3200 0 (mgI M0 401 a6 0).toNatClampNeg) fun o10 => oc o10 none fun a11 => nm (fX11_isIn (mgL M0 815 a11 0) x2) fun b12 => if b12 = 0 then (nm (mgR M0 402 a6 0) fun o14 => k3 i4 o14) else (ix (mgI M0 401 a6 0) 64 <| nm (if i4 < ((mgI M0 3400 0 (mgI M0 401 a6 0).toNatClampNeg) + (1 : Int32)) then ((mgI M0 3400 0 (mgI M0 401 a6 0).toNatClampNeg) + (1 : Int32)) else i4) fun v15 => nm (mgR M0 402 a6 0) fun o16 => k3 v15 o16)) else (nm (mgR M0 402 a6 0) fun o9 => k3 i4 o9))
def fX5_longestWay_l8 (M0 : Mem) (x2 : Int32) : Nat → Int32 → (Option Nat) → Option Int32
  | 0, _, _ => none
  | n + 1, i4, o5 => fX5_longestWay_b8 M0 x2 (fX5_longestWay_l8 M0 x2 n) i4 o5
def fX5_longestWay (x1 : Option Nat) (x2 : Int32) (M0 : Mem) : Option Int32 :=
  oc x1 none fun a1 => nm (mgR M0 813 a1 0) fun o2 => fX5_longestWay_l8 M0 x2 FU (0 : Int32) o2
set_option maxHeartbeats 4000000 in
set_option maxRecDepth 100000 in
theorem mX5_longestWay {l : Launch} {D : va_G} {cy : Nat → ClassId} {A : Nat → Prop} {K : KC} {nS nL : Nat} {ad : Nat → Nat → Nat} (hZk : ZOK A (ZC A K)) (x1 : Option Nat) (x2 : Int32) (M0 : Mem) (hx1 : ∀ z, x1 = some z → z < (cnC nS nL) 8) (r : Int32) (h : fX5_longestWay x1 x2 M0 = some r) : Met l yX5_longestWay (wt yX5_longestWay cX5_longestWay 5 (some .int)) (rm 1 40) (CPre D cy A (ZC A K) (cnC nS nL) ad M0 [.ref (ad 5 0), rv (ad 8) x1, .int x2]) (QI D cy A (cnC nS nL) ad r M0) 0 0 A := by
  refine tb_start [.ref (ad 5 0), rv (ad 8) x1, .int x2] [(0, .ref (ad 5 0)), (1, rv (ad 8) x1), (2, .int x2)] RX5 rfl (by decide +kernel) (by simp [lg_sl, List.flatMap_cons, rv_cat, cat_r, cat_i, cat_l]) (by simp [lv_args, rv_cat, cat_r, cat_i, cat_l]) (fun p e s m args below meth c hx hb hr hml hown hts hlk hW hK hZ ls hl => ?_)
  have hS : va_S A s.heap s.heap [] := va_S.rf
  unfold fX5_longestWay at h
  refine lv_iconst (v := (0 : Int32)) hx hb dX5_longestWay_0 (by decide) ?_
  refine lv_istore_n (lv' := [(3, .int (0 : Int32)), (0, .ref (ad 5 0)), (1, rv (ad 8) x1), (2, .int x2)]) hx hb dX5_longestWay_1 rfl hl (by decide) rfl (fun ls hl => ?_)
  refine tb_aload_n hx hb dX5_longestWay_2 rfl (lv_at hl 2 rfl) ?_
  replace h := oc_d h
  obtain ⟨a1, ea1, h⟩ := h
  subst ea1
  have la1 := hx1 _ rfl
  refine gtX5_54 hx hb hts hown hK hW la1 dX5_longestWay_3 ?_
  refine tb_topr (fun o2 eo2 => ?_)
  replace h := nm_a eo2 h
  have ho2 : ∀ z, o2 = some z → z < (cnC nS nL) 4 := fun z hz => hW.ref 1 rfl (eo2.symm.trans hz)
  refine tb_astore (lv' := [(4, rv (ad 4) o2), (3, .int (0 : Int32)), (0, .ref (ad 5 0)), (1, .ref (ad 8 a1)), (2, .int x2)]) hx hb dX5_longestWay_6 hl (by decide) rfl (fun ls hl => ?_)
  have L3 : ∀ (n3 : Nat) (i4 : Int32) (o5 : Option Nat) (H : Heap) (locs : List Loc) (ls : Array Slot), Wd D cy A (cnC nS nL) ad M0 H → va_S A s.heap H locs → lv_has ls 5 [(0, .ref (ad 5 0)), (2, .int x2), (3, .int i4), (4, rv (ad 4) o5)] → (∀ z, o5 = some z → z < (cnC nS nL) 4) → fX5_longestWay_l8 M0 x2 n3 i4 o5 = some r → W p l e (rm 1 40) s m args below meth c H locs 0 0 (MQ below (QI D cy A (cnC nS nL) ad r M0) args s 0 0 A) (F0 m 8 ls []) := by
    intro n3
    induction n3 with
    | zero => intro i4 o5 H locs ls hW hS hl ho5 h; cases h
    | succ n3 ih3 =>
      intro i4 o5 H locs ls hW hS hl ho5 h
      unfold fX5_longestWay_l8 fX5_longestWay_b8 at h
      refine tb_aload hx hb dX5_longestWay_8 (lv_at hl 3 rfl) ?_
      refine tb_ifnull (tgt := 94) hx hb dX5_longestWay_10 (by decide) (fun e0 => ?_) (fun a6 ea6 => ?_)
      · replace h := oc_n e0 h
        subst e0
        refine lv_iload_n hx hb dX5_longestWay_94 rfl (lv_at hl 2 rfl) ?_
        exact tb_iretO h hx hb hr hS hW hlk dX5_longestWay_95
      · replace h := oc_s ea6 h
        subst ea6
        have la6 := ho5 _ rfl
        refine lv_aload hx hb dX5_longestWay_13 (lv_at hl 3 rfl) ?_
        refine gtX5_69 hx hb hts hown hK hW la6 dX5_longestWay_15 ?_
        refine lv_if_ne (tgt := 39) hx hb dX5_longestWay_18 (by decide) (fun c7 => ?_) (fun c7 => ?_)
        · replace h := sh_f c7 h
          refine lv_aload hx hb dX5_longestWay_39 (lv_at hl 3 rfl) ?_
          refine gtX5_69 hx hb hts hown hK hW la6 dX5_longestWay_41 ?_
          refine lv_if_ne (tgt := 84) hx hb dX5_longestWay_44 (by decide) (fun c8 => ?_) (fun c8 => ?_)
          · replace h := sh_f c8 h
            refine lv_aload hx hb dX5_longestWay_84 (lv_at hl 3 rfl) ?_
            refine gtX5_79 hx hb hts hown hK hW la6 dX5_longestWay_86 ?_
            refine tb_topr (fun o9 eo9 => ?_)
            replace h := nm_a eo9 h
            have ho9 : ∀ z, o9 = some z → z < (cnC nS nL) 4 := fun z hz => hW.ref 0 rfl (eo9.symm.trans hz)
            refine tb_astore (lv' := [(4, rv (ad 4) o9), (0, .ref (ad 5 0)), (2, .int x2), (3, .int i4)]) hx hb dX5_longestWay_89 hl (by decide) rfl (fun ls hl => ?_)
            refine lv_goto (tgt := 8) hx hb dX5_longestWay_91 (by decide) ?_
            exact ih3 i4 o9 _ _ _ hW hS (lv_sub hl [1, 2, 3, 0] rfl) ho9 h
          · replace h := sh_t c8 h
            refine lv_aload_n hx hb dX5_longestWay_47 rfl (lv_at hl 0 rfl) ?_
            refine gtX5_11 hx hb hts hown hK hW cz5 dX5_longestWay_48 ?_
            refine lv_aload hx hb dX5_longestWay_51 (lv_at hl 3 rfl) ?_
            refine gtX5_73 hx hb hts hown hK hW la6 dX5_longestWay_53 ?_
            replace h := ix_a h
            obtain ⟨hj, h⟩ := h
            refine al32 hx hb hK hW cz32 hj dX5_longestWay_56 (fun o10 eo10 ho10 => ?_)
            replace h := nm_a eo10 h
            replace h := oc_d h
            obtain ⟨a11, ea11, h⟩ := h
            subst ea11
            have la11 := ho10 _ rfl
            refine gtX5_76 hx hb hts hown hK hW la11 dX5_longestWay_57 ?_
            refine lv_iload_n hx hb dX5_longestWay_60 rfl (lv_at hl 1 rfl) ?_
            refine tb_cNZ hZk hx hb hml hown hts hK hZ hW hS [.long (mgL M0 815 a11 0), .int x2] (mX11_isIn (l := l) hZk (mgL M0 815 a11 0) x2 M0 (fX11_isIn (mgL M0 815 a11 0) x2) rfl) pmX11_isIn (hZ.2.2.2.2.2.1 6 _ rfl) ⟨Nat.le_of_ble_eq_true rfl, Nat.le_of_ble_eq_true rfl⟩ rfl hl.1 (Nat.le_of_ble_eq_true rfl) ⟨Nat.le_refl _, Nat.le_refl _⟩ rfl dX5_longestWay_61 (fun H locs hW hS hzz => ?_)
            refine lv_topi (fun b12 eb12 => ?_)
            replace h := nm_a eb12 h
            have hzb12 : b12 = 0 ∨ b12 = 1 := by rw [eb12]; exact hzz
            refine lv_if_eq (tgt := 84) hx hb dX5_longestWay_64 (by decide) (fun c13 => ?_) (fun c13 => ?_)
            · replace h := sh_t c13 h
              refine lv_aload hx hb dX5_longestWay_84 (lv_at hl 3 rfl) ?_
              refine gtX5_79 hx hb hts hown hK hW la6 dX5_longestWay_86 ?_
              refine tb_topr (fun o14 eo14 => ?_)
              replace h := nm_a eo14 h
              have ho14 : ∀ z, o14 = some z → z < (cnC nS nL) 4 := fun z hz => hW.ref 0 rfl (eo14.symm.trans hz)
              refine tb_astore (lv' := [(4, rv (ad 4) o14), (0, .ref (ad 5 0)), (2, .int x2), (3, .int i4)]) hx hb dX5_longestWay_89 hl (by decide) rfl (fun ls hl => ?_)
              refine lv_goto (tgt := 8) hx hb dX5_longestWay_91 (by decide) ?_
              exact ih3 i4 o14 _ _ _ hW hS (lv_sub hl [1, 2, 3, 0] rfl) ho14 h
            · replace h := sh_f c13 h
              refine lv_iload_n hx hb dX5_longestWay_67 rfl (lv_at hl 2 rfl) ?_
              refine lv_aload_n hx hb dX5_longestWay_68 rfl (lv_at hl 0 rfl) ?_
              refine gtX5_23 hx hb hts hown hK hW cz5 dX5_longestWay_69 ?_
              refine lv_aload hx hb dX5_longestWay_72 (lv_at hl 3 rfl) ?_
              refine gtX5_73 hx hb hts hown hK hW la6 dX5_longestWay_74 ?_
              replace h := ix_a h
              obtain ⟨hj, h⟩ := h
              refine al34 hx hb hK hW cz34 hj dX5_longestWay_77 ?_
              refine lv_iconst (v := (1 : Int32)) hx hb dX5_longestWay_78 (by decide) ?_
              refine lv_iadd hx hb dX5_longestWay_79 ?_
              refine va_mmax hx hb (hml.trans hl.1.symm) hown (hts _ tw655) (hts _ tw656) (hts _ tw91) (hts _ tw657) (Nat.le_of_ble_eq_true rfl) (by show _ ≤ _; exact Nat.le_of_ble_eq_true rfl) (Nat.le_refl _) (Nat.le_refl _) dX5_longestWay_80 ?_
              refine lv_topi (fun v15 ev15 => ?_)
              replace h := nm_a ev15 h
              refine lv_istore_n (lv' := [(3, .int v15), (0, .ref (ad 5 0)), (2, .int x2), (4, .ref (ad 4 a6))]) hx hb dX5_longestWay_83 rfl hl (by decide) rfl (fun ls hl => ?_)
              refine lv_aload hx hb dX5_longestWay_84 (lv_at hl 3 rfl) ?_
              refine gtX5_79 hx hb hts hown hK hW la6 dX5_longestWay_86 ?_
              refine tb_topr (fun o16 eo16 => ?_)
              replace h := nm_a eo16 h
              have ho16 : ∀ z, o16 = some z → z < (cnC nS nL) 4 := fun z hz => hW.ref 0 rfl (eo16.symm.trans hz)
              refine tb_astore (lv' := [(4, rv (ad 4) o16), (3, .int v15), (0, .ref (ad 5 0)), (2, .int x2)]) hx hb dX5_longestWay_89 hl (by decide) rfl (fun ls hl => ?_)
              refine lv_goto (tgt := 8) hx hb dX5_longestWay_91 (by decide) ?_
              exact ih3 v15 o16 _ _ _ hW hS (lv_sub hl [2, 3, 1, 0] rfl) ho16 h
        · replace h := sh_t c7 h
          refine lv_aload hx hb dX5_longestWay_21 (lv_at hl 3 rfl) ?_
          refine gtX5_73 hx hb hts hown hK hW la6 dX5_longestWay_23 ?_
          refine lv_iload_n hx hb dX5_longestWay_26 rfl (lv_at hl 1 rfl) ?_
          refine lv_icmp_ne (tgt := 39) hx hb dX5_longestWay_27 (by decide) (fun c17 => ?_) (fun c17 => ?_)
          · replace h := sh_f c17 h
            refine lv_aload hx hb dX5_longestWay_39 (lv_at hl 3 rfl) ?_
            refine gtX5_69 hx hb hts hown hK hW la6 dX5_longestWay_41 ?_
            refine lv_if_ne (tgt := 84) hx hb dX5_longestWay_44 (by decide) (fun c18 => ?_) (fun c18 => ?_)
            · replace h := sh_f c18 h
              refine lv_aload hx hb dX5_longestWay_84 (lv_at hl 3 rfl) ?_
              refine gtX5_79 hx hb hts hown hK hW la6 dX5_longestWay_86 ?_
              refine tb_topr (fun o19 eo19 => ?_)
              replace h := nm_a eo19 h
              have ho19 : ∀ z, o19 = some z → z < (cnC nS nL) 4 := fun z hz => hW.ref 0 rfl (eo19.symm.trans hz)
              refine tb_astore (lv' := [(4, rv (ad 4) o19), (0, .ref (ad 5 0)), (2, .int x2), (3, .int i4)]) hx hb dX5_longestWay_89 hl (by decide) rfl (fun ls hl => ?_)
              refine lv_goto (tgt := 8) hx hb dX5_longestWay_91 (by decide) ?_
              exact ih3 i4 o19 _ _ _ hW hS (lv_sub hl [1, 2, 3, 0] rfl) ho19 h
            · replace h := sh_t c18 h
              refine lv_aload_n hx hb dX5_longestWay_47 rfl (lv_at hl 0 rfl) ?_
              refine gtX5_11 hx hb hts hown hK hW cz5 dX5_longestWay_48 ?_
              refine lv_aload hx hb dX5_longestWay_51 (lv_at hl 3 rfl) ?_
              refine gtX5_73 hx hb hts hown hK hW la6 dX5_longestWay_53 ?_
              replace h := ix_a h
              obtain ⟨hj, h⟩ := h
              refine al32 hx hb hK hW cz32 hj dX5_longestWay_56 (fun o20 eo20 ho20 => ?_)
              replace h := nm_a eo20 h
              replace h := oc_d h
              obtain ⟨a21, ea21, h⟩ := h
              subst ea21
              have la21 := ho20 _ rfl
              refine gtX5_76 hx hb hts hown hK hW la21 dX5_longestWay_57 ?_
              refine lv_iload_n hx hb dX5_longestWay_60 rfl (lv_at hl 1 rfl) ?_
              refine tb_cNZ hZk hx hb hml hown hts hK hZ hW hS [.long (mgL M0 815 a21 0), .int x2] (mX11_isIn (l := l) hZk (mgL M0 815 a21 0) x2 M0 (fX11_isIn (mgL M0 815 a21 0) x2) rfl) pmX11_isIn (hZ.2.2.2.2.2.1 6 _ rfl) ⟨Nat.le_of_ble_eq_true rfl, Nat.le_of_ble_eq_true rfl⟩ rfl hl.1 (Nat.le_of_ble_eq_true rfl) ⟨Nat.le_refl _, Nat.le_refl _⟩ rfl dX5_longestWay_61 (fun H locs hW hS hzz => ?_)
              refine lv_topi (fun b22 eb22 => ?_)
              replace h := nm_a eb22 h
              have hzb22 : b22 = 0 ∨ b22 = 1 := by rw [eb22]; exact hzz
              refine lv_if_eq (tgt := 84) hx hb dX5_longestWay_64 (by decide) (fun c23 => ?_) (fun c23 => ?_)
              · replace h := sh_t c23 h
                refine lv_aload hx hb dX5_longestWay_84 (lv_at hl 3 rfl) ?_
                refine gtX5_79 hx hb hts hown hK hW la6 dX5_longestWay_86 ?_
                refine tb_topr (fun o24 eo24 => ?_)
                replace h := nm_a eo24 h
                have ho24 : ∀ z, o24 = some z → z < (cnC nS nL) 4 := fun z hz => hW.ref 0 rfl (eo24.symm.trans hz)
                refine tb_astore (lv' := [(4, rv (ad 4) o24), (0, .ref (ad 5 0)), (2, .int x2), (3, .int i4)]) hx hb dX5_longestWay_89 hl (by decide) rfl (fun ls hl => ?_)
                refine lv_goto (tgt := 8) hx hb dX5_longestWay_91 (by decide) ?_
                exact ih3 i4 o24 _ _ _ hW hS (lv_sub hl [1, 2, 3, 0] rfl) ho24 h
              · replace h := sh_f c23 h
                refine lv_iload_n hx hb dX5_longestWay_67 rfl (lv_at hl 2 rfl) ?_
                refine lv_aload_n hx hb dX5_longestWay_68 rfl (lv_at hl 0 rfl) ?_
                refine gtX5_23 hx hb hts hown hK hW cz5 dX5_longestWay_69 ?_
                refine lv_aload hx hb dX5_longestWay_72 (lv_at hl 3 rfl) ?_
                refine gtX5_73 hx hb hts hown hK hW la6 dX5_longestWay_74 ?_
                replace h := ix_a h
                obtain ⟨hj, h⟩ := h
                refine al34 hx hb hK hW cz34 hj dX5_longestWay_77 ?_
                refine lv_iconst (v := (1 : Int32)) hx hb dX5_longestWay_78 (by decide) ?_
                refine lv_iadd hx hb dX5_longestWay_79 ?_
                refine va_mmax hx hb (hml.trans hl.1.symm) hown (hts _ tw655) (hts _ tw656) (hts _ tw91) (hts _ tw657) (Nat.le_of_ble_eq_true rfl) (by show _ ≤ _; exact Nat.le_of_ble_eq_true rfl) (Nat.le_refl _) (Nat.le_refl _) dX5_longestWay_80 ?_
                refine lv_topi (fun v25 ev25 => ?_)
                replace h := nm_a ev25 h
                refine lv_istore_n (lv' := [(3, .int v25), (0, .ref (ad 5 0)), (2, .int x2), (4, .ref (ad 4 a6))]) hx hb dX5_longestWay_83 rfl hl (by decide) rfl (fun ls hl => ?_)
                refine lv_aload hx hb dX5_longestWay_84 (lv_at hl 3 rfl) ?_
                refine gtX5_79 hx hb hts hown hK hW la6 dX5_longestWay_86 ?_
                refine tb_topr (fun o26 eo26 => ?_)
                replace h := nm_a eo26 h
                have ho26 : ∀ z, o26 = some z → z < (cnC nS nL) 4 := fun z hz => hW.ref 0 rfl (eo26.symm.trans hz)
                refine tb_astore (lv' := [(4, rv (ad 4) o26), (3, .int v25), (0, .ref (ad 5 0)), (2, .int x2)]) hx hb dX5_longestWay_89 hl (by decide) rfl (fun ls hl => ?_)
                refine lv_goto (tgt := 8) hx hb dX5_longestWay_91 (by decide) ?_
                exact ih3 v25 o26 _ _ _ hW hS (lv_sub hl [2, 3, 1, 0] rfl) ho26 h
          · replace h := sh_t c17 h
            refine lv_iload_n hx hb dX5_longestWay_30 rfl (lv_at hl 2 rfl) ?_
            refine lv_iconst (v := (1 : Int32)) hx hb dX5_longestWay_31 (by decide) ?_
            refine va_mmax hx hb (hml.trans hl.1.symm) hown (hts _ tw655) (hts _ tw656) (hts _ tw91) (hts _ tw657) (Nat.le_of_ble_eq_true rfl) (by show _ ≤ _; exact Nat.le_of_ble_eq_true rfl) (Nat.le_refl _) (Nat.le_refl _) dX5_longestWay_32 ?_
            refine lv_topi (fun v27 ev27 => ?_)
            replace h := nm_a ev27 h
            refine lv_istore_n (lv' := [(3, .int v27), (0, .ref (ad 5 0)), (2, .int x2), (4, .ref (ad 4 a6))]) hx hb dX5_longestWay_35 rfl hl (by decide) rfl (fun ls hl => ?_)
            refine lv_goto (tgt := 84) hx hb dX5_longestWay_36 (by decide) ?_
            refine lv_aload hx hb dX5_longestWay_84 (lv_at hl 3 rfl) ?_
            refine gtX5_79 hx hb hts hown hK hW la6 dX5_longestWay_86 ?_
            refine tb_topr (fun o28 eo28 => ?_)
            replace h := nm_a eo28 h
            have ho28 : ∀ z, o28 = some z → z < (cnC nS nL) 4 := fun z hz => hW.ref 0 rfl (eo28.symm.trans hz)
            refine tb_astore (lv' := [(4, rv (ad 4) o28), (3, .int v27), (0, .ref (ad 5 0)), (2, .int x2)]) hx hb dX5_longestWay_89 hl (by decide) rfl (fun ls hl => ?_)
            refine lv_goto (tgt := 8) hx hb dX5_longestWay_91 (by decide) ?_
            exact ih3 v27 o28 _ _ _ hW hS (lv_sub hl [2, 3, 1, 0] rfl) ho28 h
  exact L3 FU (0 : Int32) o2 _ _ _ hW hS (lv_sub hl [2, 4, 1, 0] rfl) ho2 h
def fX5_far_b9 (a1 : Nat) (k3 : Int32 → Int32 → Mem → Option (Int32 × Mem)) (i4 : Int32) (i5 : Int32) (M6 : Mem) : Option (Int32 × Mem) :=
  if (mgI M6 502 0 0) ≤ i5 then (some (i4, M6)) else (ix i5 64 <| nm (mgR M6 3200 0 i5.toNatClampNeg) fun o8 => oc o8 none fun a9 => nm (fX11_isIn (mgL M6 815 a9 0) (mgI M6 800 a1 0)) fun b10 => if b10 = 0 then (ix i5 64 <| nm (msI M6 3400 0 i5.toNatClampNeg (0 : Int32)) fun M12 => ix i5 64 <| nm (if i4 < (mgI M12 3400 0 i5.toNatClampNeg) then (mgI M12 3400 0 i5.toNatClampNeg) else i4) fun v13 => nm (i5 + (1 : Int32)) fun v14 => k3 v13 v14 M12) else (ix i5 64 <| nm (mgR M6 3200 0 i5.toNatClampNeg) fun o15 => bd (fX5_longestWay o15 (mgI M6 800 a1 0) M6) fun b16 => ix i5 64 <| nm (msI M6 3400 0 i5.toNatClampNeg b16) fun M17 => ix i5 64 <| nm (if i4 < (mgI M17 3400 0 i5.toNatClampNeg) then (mgI M17 3400 0 i5.toNatClampNeg) else i4) fun v18 => nm (i5 + (1 : Int32)) fun v19 => k3 v18 v19 M17))
def fX5_far_l9 (a1 : Nat) : Nat → Int32 → Int32 → Mem → Option (Int32 × Mem)
  | 0, _, _, _ => none
  | n + 1, i4, i5, M6 => fX5_far_b9 a1 (fX5_far_l9 a1 n) i4 i5 M6
def fX5_far (x1 : Option Nat) (M0 : Mem) : Option (Int32 × Mem) :=
  oc x1 none fun a1 => nm ((mgI M0 800 a1 0) + (1 : Int32)) fun v2 => fX5_far_l9 a1 FU (0 : Int32) v2 M0
set_option maxHeartbeats 4000000 in
set_option maxRecDepth 100000 in
theorem mX5_far {l : Launch} {D : va_G} {cy : Nat → ClassId} {A : Nat → Prop} {K : KC} {nS nL : Nat} {ad : Nat → Nat → Nat} (hZk : ZOK A (ZC A K)) (x1 : Option Nat) (M0 : Mem) (hx1 : ∀ z, x1 = some z → z < (cnC nS nL) 8) (r : Int32) (M' : Mem) (h : fX5_far x1 M0 = some (r, M')) : Met l yX5_far (wt yX5_far cX5_far 4 (some .int)) (rm 2 64) (CPre D cy A (ZC A K) (cnC nS nL) ad M0 [.ref (ad 5 0), rv (ad 8) x1]) (QI D cy A (cnC nS nL) ad r M') 0 0 A := by
  refine tb_start [.ref (ad 5 0), rv (ad 8) x1] [(0, .ref (ad 5 0)), (1, rv (ad 8) x1)] RX5 rfl (by decide +kernel) (by simp [lg_sl, List.flatMap_cons, rv_cat, cat_r, cat_i, cat_l]) (by simp [lv_args, rv_cat, cat_r, cat_i, cat_l]) (fun p e s m args below meth c hx hb hr hml hown hts hlk hW hK hZ ls hl => ?_)
  have hS : va_S A s.heap s.heap [] := va_S.rf
  unfold fX5_far at h
  refine lv_iconst (v := (0 : Int32)) hx hb dX5_far_0 (by decide) ?_
  refine lv_istore_n (lv' := [(2, .int (0 : Int32)), (0, .ref (ad 5 0)), (1, rv (ad 8) x1)]) hx hb dX5_far_1 rfl hl (by decide) (by simp [List.filter, rv_cat]) (fun ls hl => ?_)
  refine tb_aload_n hx hb dX5_far_2 rfl (lv_at hl 2 rfl) ?_
  replace h := oc_d h
  obtain ⟨a1, ea1, h⟩ := h
  subst ea1
  have la1 := hx1 _ rfl
  refine gtX5_43 hx hb hts hown hK hW la1 dX5_far_3 ?_
  refine lv_iconst (v := (1 : Int32)) hx hb dX5_far_6 (by decide) ?_
  refine lv_iadd hx hb dX5_far_7 ?_
  refine lv_topi (fun v2 ev2 => ?_)
  replace h := nm_a ev2 h
  refine lv_istore_n (lv' := [(3, .int v2), (2, .int (0 : Int32)), (0, .ref (ad 5 0)), (1, .ref (ad 8 a1))]) hx hb dX5_far_8 rfl hl (by decide) rfl (fun ls hl => ?_)
  have L3 : ∀ (n3 : Nat) (i4 : Int32) (i5 : Int32) (M6 : Mem) (H : Heap) (locs : List Loc) (ls : Array Slot), Wd D cy A (cnC nS nL) ad M6 H → va_S A s.heap H locs → lv_has ls 4 [(0, .ref (ad 5 0)), (1, .ref (ad 8 a1)), (2, .int i4), (3, .int i5)] → fX5_far_l9 a1 n3 i4 i5 M6 = some (r, M') → W p l e (rm 2 64) s m args below meth c H locs 0 0 (MQ below (QI D cy A (cnC nS nL) ad r M') args s 0 0 A) (F0 m 9 ls []) := by
    intro n3
    induction n3 with
    | zero => intro i4 i5 M6 H locs ls hW hS hl h; cases h
    | succ n3 ih3 =>
      intro i4 i5 M6 H locs ls hW hS hl h
      unfold fX5_far_l9 fX5_far_b9 at h
      refine lv_iload_n hx hb dX5_far_9 rfl (lv_at hl 3 rfl) ?_
      refine lv_aload_n hx hb dX5_far_10 rfl (lv_at hl 0 rfl) ?_
      refine gtX5_27 hx hb hts hown hK hW cz5 dX5_far_11 ?_
      refine lv_icmp_ge (tgt := 77) hx hb dX5_far_14 (by decide) (fun c7 => ?_) (fun c7 => ?_)
      · replace h := sh_t c7 h
        refine lv_iload_n hx hb dX5_far_77 rfl (lv_at hl 2 rfl) ?_
        exact tb_iretE h hx hb hr hS hW hlk dX5_far_78
      · replace h := sh_f c7 h
        refine lv_aload_n hx hb dX5_far_17 rfl (lv_at hl 0 rfl) ?_
        refine gtX5_23 hx hb hts hown hK hW cz5 dX5_far_18 ?_
        refine lv_iload_n hx hb dX5_far_21 rfl (lv_at hl 3 rfl) ?_
        refine lv_aload_n hx hb dX5_far_22 rfl (lv_at hl 0 rfl) ?_
        refine gtX5_11 hx hb hts hown hK hW cz5 dX5_far_23 ?_
        refine lv_iload_n hx hb dX5_far_26 rfl (lv_at hl 3 rfl) ?_
        replace h := ix_a h
        obtain ⟨hj, h⟩ := h
        refine al32 hx hb hK hW cz32 hj dX5_far_27 (fun o8 eo8 ho8 => ?_)
        replace h := nm_a eo8 h
        replace h := oc_d h
        obtain ⟨a9, ea9, h⟩ := h
        subst ea9
        have la9 := ho8 _ rfl
        refine gtX5_76 hx hb hts hown hK hW la9 dX5_far_28 ?_
        refine lv_aload_n hx hb dX5_far_31 rfl (lv_at hl 1 rfl) ?_
        refine gtX5_43 hx hb hts hown hK hW la1 dX5_far_32 ?_
        refine tb_cNZ hZk hx hb hml hown hts hK hZ hW hS [.long (mgL M6 815 a9 0), .int (mgI M6 800 a1 0)] (mX11_isIn (l := l) hZk (mgL M6 815 a9 0) (mgI M6 800 a1 0) M6 (fX11_isIn (mgL M6 815 a9 0) (mgI M6 800 a1 0)) rfl) pmX11_isIn (hZ.2.2.2.2.2.1 6 _ rfl) ⟨Nat.le_of_ble_eq_true rfl, Nat.le_of_ble_eq_true rfl⟩ rfl hl.1 (Nat.le_of_ble_eq_true rfl) ⟨Nat.le_refl _, Nat.le_refl _⟩ rfl dX5_far_35 (fun H locs hW hS hzz => ?_)
        refine lv_topi (fun b10 eb10 => ?_)
        replace h := nm_a eb10 h
        have hzb10 : b10 = 0 ∨ b10 = 1 := by rw [eb10]; exact hzz
        refine lv_if_eq (tgt := 58) hx hb dX5_far_38 (by decide) (fun c11 => ?_) (fun c11 => ?_)
        · replace h := sh_t c11 h
          refine lv_iconst (v := (0 : Int32)) hx hb dX5_far_58 (by decide) ?_
          replace h := ix_a h
          obtain ⟨hj, h⟩ := h
          refine as34 hx hb hK hW hS cz34 hj dX5_far_59 (fun H locs hW hS => ?_)
          obtain ⟨M12, eM12⟩ : ∃ y, y = msI M6 3400 0 i5.toNatClampNeg (0 : Int32) := ⟨_, rfl⟩
          replace h := nm_a eM12 h
          rw [← eM12] at hW
          refine lv_iload_n hx hb dX5_far_60 rfl (lv_at hl 2 rfl) ?_
          refine lv_aload_n hx hb dX5_far_61 rfl (lv_at hl 0 rfl) ?_
          refine gtX5_23 hx hb hts hown hK hW cz5 dX5_far_62 ?_
          refine lv_iload_n hx hb dX5_far_65 rfl (lv_at hl 3 rfl) ?_
          replace h := ix_a h
          obtain ⟨hj, h⟩ := h
          refine al34 hx hb hK hW cz34 hj dX5_far_66 ?_
          refine va_mmax hx hb (hml.trans hl.1.symm) hown (hts _ tw655) (hts _ tw656) (hts _ tw91) (hts _ tw657) (Nat.le_of_ble_eq_true rfl) (by show _ ≤ _; exact Nat.le_of_ble_eq_true rfl) (Nat.le_refl _) (Nat.le_refl _) dX5_far_67 ?_
          refine lv_topi (fun v13 ev13 => ?_)
          replace h := nm_a ev13 h
          refine lv_istore_n (lv' := [(2, .int v13), (0, .ref (ad 5 0)), (1, .ref (ad 8 a1)), (3, .int i5)]) hx hb dX5_far_70 rfl hl (by decide) rfl (fun ls hl => ?_)
          obtain ⟨v14, ev14⟩ : ∃ y : Int32, y = i5 + (1 : Int32) := ⟨_, rfl⟩
          replace h := nm_a ev14 h
          refine lv_iinc (v := v14) (lv' := [(3, .int v14), (2, .int v13), (0, .ref (ad 5 0)), (1, .ref (ad 8 a1))]) hx hb dX5_far_71 hl (k := 3) rfl (by rw [ev14]; rfl) (by decide) rfl (fun ls hl => ?_)
          refine lv_goto (tgt := 9) hx hb dX5_far_74 (by decide) ?_
          exact ih3 v13 v14 M12 _ _ _ hW hS (lv_sub hl [2, 3, 1, 0] rfl) h
        · replace h := sh_f c11 h
          refine lv_aload_n hx hb dX5_far_41 rfl (lv_at hl 0 rfl) ?_
          refine lv_aload_n hx hb dX5_far_42 rfl (lv_at hl 0 rfl) ?_
          refine gtX5_11 hx hb hts hown hK hW cz5 dX5_far_43 ?_
          refine lv_iload_n hx hb dX5_far_46 rfl (lv_at hl 3 rfl) ?_
          replace h := ix_a h
          obtain ⟨hj, h⟩ := h
          refine al32 hx hb hK hW cz32 hj dX5_far_47 (fun o15 eo15 ho15 => ?_)
          replace h := nm_a eo15 h
          refine lv_aload_n hx hb dX5_far_48 rfl (lv_at hl 1 rfl) ?_
          refine gtX5_43 hx hb hts hown hK hW la1 dX5_far_49 ?_
          replace h := bd_a h
          obtain ⟨b16, hcb16, h⟩ := h
          refine tb_cVI hZk hx hb hml hown hts hK hZ hW hS [rv (ad 8) o15, .int (mgI M6 800 a1 0)] (mX5_longestWay (l := l) hZk o15 (mgI M6 800 a1 0) M6 ho15 b16 hcb16) pmX5_longestWay tw651 (Wd.recv hK hW (t := 5) (by decide) cz5 (C := RX5) (T := TX5) (N := 7) rfl) ⟨Nat.le_of_ble_eq_true rfl, Nat.le_of_ble_eq_true rfl⟩ rfl hl.1 (Nat.le_of_ble_eq_true rfl) ⟨Nat.le_refl _, Nat.le_refl _⟩ rfl dX5_far_52 (fun H locs hW hS => ?_)
          refine lv_goto (tgt := 59) hx hb dX5_far_55 (by decide) ?_
          replace h := ix_a h
          obtain ⟨hj, h⟩ := h
          refine as34 hx hb hK hW hS cz34 hj dX5_far_59 (fun H locs hW hS => ?_)
          obtain ⟨M17, eM17⟩ : ∃ y, y = msI M6 3400 0 i5.toNatClampNeg b16 := ⟨_, rfl⟩
          replace h := nm_a eM17 h
          rw [← eM17] at hW
          refine lv_iload_n hx hb dX5_far_60 rfl (lv_at hl 2 rfl) ?_
          refine lv_aload_n hx hb dX5_far_61 rfl (lv_at hl 0 rfl) ?_
          refine gtX5_23 hx hb hts hown hK hW cz5 dX5_far_62 ?_
          refine lv_iload_n hx hb dX5_far_65 rfl (lv_at hl 3 rfl) ?_
          replace h := ix_a h
          obtain ⟨hj, h⟩ := h
          refine al34 hx hb hK hW cz34 hj dX5_far_66 ?_
          refine va_mmax hx hb (hml.trans hl.1.symm) hown (hts _ tw655) (hts _ tw656) (hts _ tw91) (hts _ tw657) (Nat.le_of_ble_eq_true rfl) (by show _ ≤ _; exact Nat.le_of_ble_eq_true rfl) (Nat.le_refl _) (Nat.le_refl _) dX5_far_67 ?_
          refine lv_topi (fun v18 ev18 => ?_)
          replace h := nm_a ev18 h
          refine lv_istore_n (lv' := [(2, .int v18), (0, .ref (ad 5 0)), (1, .ref (ad 8 a1)), (3, .int i5)]) hx hb dX5_far_70 rfl hl (by decide) rfl (fun ls hl => ?_)
          obtain ⟨v19, ev19⟩ : ∃ y : Int32, y = i5 + (1 : Int32) := ⟨_, rfl⟩
          replace h := nm_a ev19 h
          refine lv_iinc (v := v19) (lv' := [(3, .int v19), (2, .int v18), (0, .ref (ad 5 0)), (1, .ref (ad 8 a1))]) hx hb dX5_far_71 hl (k := 3) rfl (by rw [ev19]; rfl) (by decide) rfl (fun ls hl => ?_)
          refine lv_goto (tgt := 9) hx hb dX5_far_74 (by decide) ?_
          exact ih3 v18 v19 M17 _ _ _ hW hS (lv_sub hl [2, 3, 1, 0] rfl) h
  exact L3 FU (0 : Int32) v2 M0 _ _ _ hW hS (lv_sub hl [2, 3, 1, 0] rfl) h
def fX5_kindNow (x1 : Option Nat) (M0 : Mem) : Option Int32 :=
  bd (fX5_isStill x1 M0) fun b1 => if b1 = 0 then (oc x1 none fun a3 => some (mgI M0 801 a3 0)) else (some (6 : Int32))
set_option maxHeartbeats 4000000 in
set_option maxRecDepth 100000 in
theorem mX5_kindNow {l : Launch} {D : va_G} {cy : Nat → ClassId} {A : Nat → Prop} {K : KC} {nS nL : Nat} {ad : Nat → Nat → Nat} (hZk : ZOK A (ZC A K)) (x1 : Option Nat) (M0 : Mem) (hx1 : ∀ z, x1 = some z → z < (cnC nS nL) 8) (r : Int32) (h : fX5_kindNow x1 M0 = some r) : Met l yX5_kindNow (wt yX5_kindNow cX5_kindNow 2 (some .int)) (rm 1 21) (CPre D cy A (ZC A K) (cnC nS nL) ad M0 [.ref (ad 5 0), rv (ad 8) x1]) (QI D cy A (cnC nS nL) ad r M0) 0 0 A := by
  refine tb_start [.ref (ad 5 0), rv (ad 8) x1] [(0, .ref (ad 5 0)), (1, rv (ad 8) x1)] RX5 rfl (by decide +kernel) (by simp [lg_sl, List.flatMap_cons, rv_cat, cat_r, cat_i, cat_l]) (by simp [lv_args, rv_cat, cat_r, cat_i, cat_l]) (fun p e s m args below meth c hx hb hr hml hown hts hlk hW hK hZ ls hl => ?_)
  have hS : va_S A s.heap s.heap [] := va_S.rf
  unfold fX5_kindNow at h
  refine lv_aload_n hx hb dX5_kindNow_0 rfl (lv_at hl 0 rfl) ?_
  refine tb_aload_n hx hb dX5_kindNow_1 rfl (lv_at hl 1 rfl) ?_
  replace h := bd_a h
  obtain ⟨b1, hcb1, h⟩ := h
  refine tb_cVZ hZk hx hb hml hown hts hK hZ hW hS [rv (ad 8) x1] (mX5_isStill (l := l) hZk x1 M0 hx1 b1 hcb1) pmX5_isStill tw616 (Wd.recv hK hW (t := 5) (by decide) cz5 (C := RX5) (T := TX5) (N := 7) rfl) ⟨Nat.le_of_ble_eq_true rfl, Nat.le_of_ble_eq_true rfl⟩ rfl hl.1 (Nat.le_of_ble_eq_true rfl) ⟨Nat.le_refl _, Nat.le_refl _⟩ rfl dX5_kindNow_2 (fun H locs hW hS hzz => ?_)
  have hzb1 := hzz
  refine lv_if_eq (tgt := 13) hx hb dX5_kindNow_5 (by decide) (fun c2 => ?_) (fun c2 => ?_)
  · replace h := sh_t c2 h
    refine tb_aload_n hx hb dX5_kindNow_13 rfl (lv_at hl 1 rfl) ?_
    replace h := oc_d h
    obtain ⟨a3, ea3, h⟩ := h
    subst ea3
    have la3 := hx1 _ rfl
    refine gtX5_40 hx hb hts hown hK hW la3 dX5_kindNow_14 ?_
    exact tb_iretO h hx hb hr hS hW hlk dX5_kindNow_17
  · replace h := sh_f c2 h
    refine lv_bipush (v := (6 : Int32)) hx hb dX5_kindNow_8 (by decide) ?_
    refine lv_goto (tgt := 17) hx hb dX5_kindNow_10 (by decide) ?_
    exact tb_iretO h hx hb hr hS hW hlk dX5_kindNow_17
def fX5_linesTo_b5 (M0 : Mem) (x1 : Int32) (x2 : Int32) (k1 : Int32 → Int32 → Option Int32) (i2 : Int32) (i3 : Int32) : Option Int32 :=
  if (mgI M0 503 0 0) ≤ i3 then (some i2) else (ix i3 200 <| nm (mgR M0 3300 0 i3.toNatClampNeg) fun o5 => oc o5 none fun a6 => if (mgI M0 401 a6 0) = x1 then (if (mgI M0 404 a6 0) = x2 then (if (mgI M0 405 a6 0) = 0 then (nm (i2 + (1 : Int32)) fun v13 => nm (i3 + (1 : Int32)) fun v14 => k1 v13 v14) else (nm (i3 + (1 : Int32)) fun v12 => k1 i2 v12)) else (nm (i3 + (1 : Int32)) fun v10 => k1 i2 v10)) else (nm (i3 + (1 : Int32)) fun v8 => k1 i2 v8))
def fX5_linesTo_l5 (M0 : Mem) (x1 : Int32) (x2 : Int32) : Nat → Int32 → Int32 → Option Int32
  | 0, _, _ => none
  | n + 1, i2, i3 => fX5_linesTo_b5 M0 x1 x2 (fX5_linesTo_l5 M0 x1 x2 n) i2 i3
def fX5_linesTo (x1 : Int32) (x2 : Int32) (M0 : Mem) : Option Int32 :=
  fX5_linesTo_l5 M0 x1 x2 FU (0 : Int32) (0 : Int32)
set_option maxHeartbeats 4000000 in
set_option maxRecDepth 100000 in
theorem mX5_linesTo {l : Launch} {D : va_G} {cy : Nat → ClassId} {A : Nat → Prop} {K : KC} {nS nL : Nat} {ad : Nat → Nat → Nat} (hZk : ZOK A (ZC A K)) (x1 : Int32) (x2 : Int32) (M0 : Mem) (r : Int32) (h : fX5_linesTo x1 x2 M0 = some r) : Met l yX5_linesTo (wt yX5_linesTo cX5_linesTo 6 (some .int)) (rm 0 0) (CPre D cy A (ZC A K) (cnC nS nL) ad M0 [.ref (ad 5 0), .int x1, .int x2]) (QI D cy A (cnC nS nL) ad r M0) 0 0 A := by
  refine tb_start [.ref (ad 5 0), .int x1, .int x2] [(0, .ref (ad 5 0)), (1, .int x1), (2, .int x2)] RX5 rfl (by decide +kernel) (Nat.le_of_ble_eq_true rfl) rfl (fun p e s m args below meth c hx hb hr hml hown hts hlk hW hK hZ ls hl => ?_)
  have hS : va_S A s.heap s.heap [] := va_S.rf
  unfold fX5_linesTo at h
  refine lv_iconst (v := (0 : Int32)) hx hb dX5_linesTo_0 (by decide) ?_
  refine lv_istore_n (lv' := [(3, .int (0 : Int32)), (0, .ref (ad 5 0)), (1, .int x1), (2, .int x2)]) hx hb dX5_linesTo_1 rfl hl (by decide) rfl (fun ls hl => ?_)
  refine lv_iconst (v := (0 : Int32)) hx hb dX5_linesTo_2 (by decide) ?_
  refine lv_istore (lv' := [(4, .int (0 : Int32)), (3, .int (0 : Int32)), (0, .ref (ad 5 0)), (1, .int x1), (2, .int x2)]) hx hb dX5_linesTo_3 hl (by decide) rfl (fun ls hl => ?_)
  have L1 : ∀ (n1 : Nat) (i2 : Int32) (i3 : Int32) (H : Heap) (locs : List Loc) (ls : Array Slot), Wd D cy A (cnC nS nL) ad M0 H → va_S A s.heap H locs → lv_has ls 6 [(0, .ref (ad 5 0)), (1, .int x1), (2, .int x2), (3, .int i2), (4, .int i3)] → fX5_linesTo_l5 M0 x1 x2 n1 i2 i3 = some r → W p l e (rm 0 0) s m args below meth c H locs 0 0 (MQ below (QI D cy A (cnC nS nL) ad r M0) args s 0 0 A) (F0 m 5 ls []) := by
    intro n1
    induction n1 with
    | zero => intro i2 i3 H locs ls hW hS hl h; cases h
    | succ n1 ih1 =>
      intro i2 i3 H locs ls hW hS hl h
      unfold fX5_linesTo_l5 fX5_linesTo_b5 at h
      refine lv_iload hx hb dX5_linesTo_5 (lv_at hl 4 rfl) ?_
      refine lv_aload_n hx hb dX5_linesTo_7 rfl (lv_at hl 0 rfl) ?_
      refine gtX5_31 hx hb hts hown hK hW cz5 dX5_linesTo_8 ?_
      refine lv_icmp_ge (tgt := 58) hx hb dX5_linesTo_11 (by decide) (fun c4 => ?_) (fun c4 => ?_)
      · replace h := sh_t c4 h
        refine lv_iload_n hx hb dX5_linesTo_58 rfl (lv_at hl 3 rfl) ?_
        exact tb_iretO h hx hb hr hS hW hlk dX5_linesTo_59
      · replace h := sh_f c4 h
        refine lv_aload_n hx hb dX5_linesTo_14 rfl (lv_at hl 0 rfl) ?_
        refine gtX5_19 hx hb hts hown hK hW cz5 dX5_linesTo_15 ?_
        refine lv_iload hx hb dX5_linesTo_18 (lv_at hl 4 rfl) ?_
        replace h := ix_a h
        obtain ⟨hj, h⟩ := h
        refine al33 hx hb hK hW cz33 hj dX5_linesTo_20 (fun o5 eo5 ho5 => ?_)
        replace h := nm_a eo5 h
        refine tb_astore (lv' := [(5, rv (ad 4) o5), (0, .ref (ad 5 0)), (1, .int x1), (2, .int x2), (3, .int i2), (4, .int i3)]) hx hb dX5_linesTo_21 hl (by decide) rfl (fun ls hl => ?_)
        refine tb_aload hx hb dX5_linesTo_23 (lv_at hl 0 rfl) ?_
        replace h := oc_d h
        obtain ⟨a6, ea6, h⟩ := h
        subst ea6
        have la6 := ho5 _ rfl
        refine gtX5_73 hx hb hts hown hK hW la6 dX5_linesTo_25 ?_
        refine lv_iload_n hx hb dX5_linesTo_28 rfl (lv_at hl 2 rfl) ?_
        refine lv_icmp_ne (tgt := 52) hx hb dX5_linesTo_29 (by decide) (fun c7 => ?_) (fun c7 => ?_)
        · replace h := sh_f c7 h
          obtain ⟨v8, ev8⟩ : ∃ y : Int32, y = i3 + (1 : Int32) := ⟨_, rfl⟩
          replace h := nm_a ev8 h
          refine lv_iinc (v := v8) (lv' := [(4, .int v8), (5, .ref (ad 4 a6)), (0, .ref (ad 5 0)), (1, .int x1), (2, .int x2), (3, .int i2)]) hx hb dX5_linesTo_52 hl (k := 5) rfl (by rw [ev8]; rfl) (by decide) rfl (fun ls hl => ?_)
          refine lv_goto (tgt := 5) hx hb dX5_linesTo_55 (by decide) ?_
          exact ih1 i2 v8 _ _ _ hW hS (lv_sub hl [2, 3, 4, 5, 0] rfl) h
        · replace h := sh_t c7 h
          refine lv_aload hx hb dX5_linesTo_32 (lv_at hl 0 rfl) ?_
          refine gtX5_102 hx hb hts hown hK hW la6 dX5_linesTo_34 ?_
          refine lv_iload_n hx hb dX5_linesTo_37 rfl (lv_at hl 3 rfl) ?_
          refine lv_icmp_ne (tgt := 52) hx hb dX5_linesTo_38 (by decide) (fun c9 => ?_) (fun c9 => ?_)
          · replace h := sh_f c9 h
            obtain ⟨v10, ev10⟩ : ∃ y : Int32, y = i3 + (1 : Int32) := ⟨_, rfl⟩
            replace h := nm_a ev10 h
            refine lv_iinc (v := v10) (lv' := [(4, .int v10), (5, .ref (ad 4 a6)), (0, .ref (ad 5 0)), (1, .int x1), (2, .int x2), (3, .int i2)]) hx hb dX5_linesTo_52 hl (k := 5) rfl (by rw [ev10]; rfl) (by decide) rfl (fun ls hl => ?_)
            refine lv_goto (tgt := 5) hx hb dX5_linesTo_55 (by decide) ?_
            exact ih1 i2 v10 _ _ _ hW hS (lv_sub hl [2, 3, 4, 5, 0] rfl) h
          · replace h := sh_t c9 h
            refine lv_aload hx hb dX5_linesTo_41 (lv_at hl 0 rfl) ?_
            refine gtX5_69 hx hb hts hown hK hW la6 dX5_linesTo_43 ?_
            refine lv_if_ne (tgt := 52) hx hb dX5_linesTo_46 (by decide) (fun c11 => ?_) (fun c11 => ?_)
            · replace h := sh_f c11 h
              obtain ⟨v12, ev12⟩ : ∃ y : Int32, y = i3 + (1 : Int32) := ⟨_, rfl⟩
              replace h := nm_a ev12 h
              refine lv_iinc (v := v12) (lv' := [(4, .int v12), (5, .ref (ad 4 a6)), (0, .ref (ad 5 0)), (1, .int x1), (2, .int x2), (3, .int i2)]) hx hb dX5_linesTo_52 hl (k := 5) rfl (by rw [ev12]; rfl) (by decide) rfl (fun ls hl => ?_)
              refine lv_goto (tgt := 5) hx hb dX5_linesTo_55 (by decide) ?_
              exact ih1 i2 v12 _ _ _ hW hS (lv_sub hl [2, 3, 4, 5, 0] rfl) h
            · replace h := sh_t c11 h
              obtain ⟨v13, ev13⟩ : ∃ y : Int32, y = i2 + (1 : Int32) := ⟨_, rfl⟩
              replace h := nm_a ev13 h
              refine lv_iinc (v := v13) (lv' := [(3, .int v13), (5, .ref (ad 4 a6)), (0, .ref (ad 5 0)), (1, .int x1), (2, .int x2), (4, .int i3)]) hx hb dX5_linesTo_49 hl (k := 4) rfl (by rw [ev13]; rfl) (by decide) rfl (fun ls hl => ?_)
              obtain ⟨v14, ev14⟩ : ∃ y : Int32, y = i3 + (1 : Int32) := ⟨_, rfl⟩
              replace h := nm_a ev14 h
              refine lv_iinc (v := v14) (lv' := [(4, .int v14), (3, .int v13), (5, .ref (ad 4 a6)), (0, .ref (ad 5 0)), (1, .int x1), (2, .int x2)]) hx hb dX5_linesTo_52 hl (k := 5) rfl (by rw [ev14]; rfl) (by decide) rfl (fun ls hl => ?_)
              refine lv_goto (tgt := 5) hx hb dX5_linesTo_55 (by decide) ?_
              exact ih1 v13 v14 _ _ _ hW hS (lv_sub hl [3, 4, 5, 1, 0] rfl) h
  exact L1 FU (0 : Int32) (0 : Int32) _ _ _ hW hS (lv_sub hl [2, 3, 4, 1, 0] rfl) h
