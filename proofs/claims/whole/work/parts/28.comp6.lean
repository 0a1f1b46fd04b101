def fX7_readPart_b34 (x1 : Int32) (rp : Int32 → Int32 → Mem → Option (Unit × Mem)) (x2 : Int32) (k5 : Int32 → Mem → Option (Unit × Mem)) (i6 : Int32) (M7 : Mem) : Option (Unit × Mem) :=
  if (120 : Int32) ≤ i6 then (some ((), M7)) else (if 0 ≤ (mgI M7 704 0 0) then (some ((), M7)) else (bd (fX7_sees (fX7_signsOf x1) M7) fun b11 => if b11 = 0 then (some ((), M7)) else (ix (mgI M7 703 0 0) 120 <| nm (mgI M7 3900 0 (mgI M7 703 0 0).toNatClampNeg) fun v13 => nm ((mgI M7 703 0 0) + (1 : Int32)) fun v14 => nm (msI M7 703 0 0 v14) fun M15 => bE (rp (x1 + (1 : Int32)) x2 M15) fun u16 M17 => bE (fX10_add 2 (-v13) M17) fun u18 M19 => nm (i6 + (1 : Int32)) fun v20 => k5 v20 M19)))
def fX7_readPart_l34 (x1 : Int32) (rp : Int32 → Int32 → Mem → Option (Unit × Mem)) (x2 : Int32) : Nat → Int32 → Mem → Option (Unit × Mem)
  | 0, _, _ => none
  | n + 1, i6, M7 => fX7_readPart_b34 x1 rp x2 (fX7_readPart_l34 x1 rp x2 n) i6 M7
def fX7_readPart_b34_21 (x1 : Int32) (rp : Int32 → Int32 → Mem → Option (Unit × Mem)) (x2 : Int32) (k21 : Int32 → Mem → Option (Unit × Mem)) (i22 : Int32) (M23 : Mem) : Option (Unit × Mem) :=
  if (1 : Int32) ≤ i22 then (some ((), M23)) else (if 0 ≤ (mgI M23 704 0 0) then (some ((), M23)) else (bd (fX7_sees (fX7_signsOf x1) M23) fun b27 => if b27 = 0 then (some ((), M23)) else (ix (mgI M23 703 0 0) 120 <| nm (mgI M23 3900 0 (mgI M23 703 0 0).toNatClampNeg) fun v29 => nm ((mgI M23 703 0 0) + (1 : Int32)) fun v30 => nm (msI M23 703 0 0 v30) fun M31 => bE (rp (x1 + (1 : Int32)) x2 M31) fun u32 M33 => bE (fX10_add 2 (-v29) M33) fun u34 M35 => nm (i22 + (1 : Int32)) fun v36 => k21 v36 M35)))
def fX7_readPart_l34_21 (x1 : Int32) (rp : Int32 → Int32 → Mem → Option (Unit × Mem)) (x2 : Int32) : Nat → Int32 → Mem → Option (Unit × Mem)
  | 0, _, _ => none
  | n + 1, i22, M23 => fX7_readPart_b34_21 x1 rp x2 (fX7_readPart_l34_21 x1 rp x2 n) i22 M23
def fX7_readPart (rp : Int32 → Int32 → Mem → Option (Unit × Mem)) (ro : Int32 → Mem → Option (Unit × Mem)) (x1 : Int32) (x2 : Int32) (M0 : Mem) : Option (Unit × Mem) :=
  if x1 < (5 : Int32) then (bE (rp (x1 + (1 : Int32)) x2 M0) fun u2 M3 => if x1 = (2 : Int32) then (fX7_readPart_l34_21 x1 rp x2 FU (0 : Int32) M3) else (fX7_readPart_l34 x1 rp x2 FU (0 : Int32) M3)) else (bE (ro x2 M0) fun u37 M38 => some ((), M38))
set_option maxHeartbeats 4000000 in
set_option maxRecDepth 100000 in
theorem mX7_readPart {l : Launch} {D : va_G} {cy : Nat → ClassId} {A : Nat → Prop} {K : KC} {nS nL : Nat} {ad : Nat → Nat → Nat} (hZk : ZOK A (ZC A K)) (rp : Int32 → Int32 → Mem → Option (Unit × Mem)) (ro : Int32 → Mem → Option (Unit × Mem)) (x1 : Int32) (x2 : Int32) (M0 : Mem) (F L : Nat) (hrp : ∀ (x1 x2 : Int32) (M0 : Mem) (r : Unit) (M' : Mem), rp x1 x2 M0 = some (r, M') → Met l yX7_readPart (wt yX7_readPart cX7_readPart 6 none) (rm (F) (L)) (CPre D cy A (ZC A K) (cnC nS nL) ad M0 [.ref (ad 7 0), .int x1, .int x2]) (QV D cy A (cnC nS nL) ad r M') 0 0 A) (hro : ∀ (x1 : Int32) (M0 : Mem) (r : Unit) (M' : Mem), ro x1 M0 = some (r, M') → Met l yX7_readOperand (wt yX7_readOperand cX7_readOperand 2 none) (rm (F) (L)) (CPre D cy A (ZC A K) (cnC nS nL) ad M0 [.ref (ad 7 0), .int x1]) (QV D cy A (cnC nS nL) ad r M') 0 0 A) (r : Unit) (M' : Mem) (h : fX7_readPart rp ro x1 x2 M0 = some (r, M')) : Met l yX7_readPart (wt yX7_readPart cX7_readPart 6 none) (rm (F + 6) (L + 149)) (CPre D cy A (ZC A K) (cnC nS nL) ad M0 [.ref (ad 7 0), .int x1, .int x2]) (QV D cy A (cnC nS nL) ad r M') 0 0 A := by
  refine tb_start [.ref (ad 7 0), .int x1, .int x2] [(0, .ref (ad 7 0)), (1, .int x1), (2, .int x2)] RX7 rfl (by decide +kernel) (Nat.le_of_ble_eq_true rfl) rfl (fun p e s m args below meth c hx hb hr hml hown hts hlk hW hK hZ ls hl => ?_)
  have hS : va_S A s.heap s.heap [] := va_S.rf
  unfold fX7_readPart at h
  refine lv_iload_n hx hb dX7_readPart_0 rfl (lv_at hl 1 rfl) ?_
  refine lv_iconst (v := (5 : Int32)) hx hb dX7_readPart_1 (by decide) ?_
  refine lv_icmp_lt (tgt := 11) hx hb dX7_readPart_2 (by decide) (fun c1 => ?_) (fun c1 => ?_)
  · replace h := sh_t c1 h
    refine lv_aload_n hx hb dX7_readPart_11 rfl (lv_at hl 0 rfl) ?_
    refine lv_iload_n hx hb dX7_readPart_12 rfl (lv_at hl 1 rfl) ?_
    refine lv_iconst (v := (1 : Int32)) hx hb dX7_readPart_13 (by decide) ?_
    refine lv_iadd hx hb dX7_readPart_14 ?_
    refine lv_iload_n hx hb dX7_readPart_15 rfl (lv_at hl 2 rfl) ?_
    replace h := bE_a h
    obtain ⟨u2, M3, hcu2, h⟩ := h
    refine tb_cVV hZk hx hb hml hown hts hK hZ hW hS [.int (x1 + (1 : Int32)), .int x2] (hrp (x1 + (1 : Int32)) x2 M0 u2 M3 hcu2) pmX7_readPart tw938 (Wd.recv hK hW (t := 7) (by decide) cz7 (C := RX7) (T := TX7) (N := 5) rfl) ⟨(show F + 0 + 1 ≤ F + 6 by omega), (show 8 + (6 + 11) + (L + 0) ≤ L + 149 by omega)⟩ rfl hl.1 (Nat.le_of_ble_eq_true rfl) ⟨Nat.le_refl _, Nat.le_refl _⟩ rfl dX7_readPart_16 (fun H locs hW hS => ?_)
    refine lv_iload_n hx hb dX7_readPart_19 rfl (lv_at hl 1 rfl) ?_
    refine lv_iconst (v := (2 : Int32)) hx hb dX7_readPart_20 (by decide) ?_
    refine lv_icmp_ne (tgt := 28) hx hb dX7_readPart_21 (by decide) (fun c4 => ?_) (fun c4 => ?_)
    · replace h := sh_f c4 h
      refine lv_bipush (v := (120 : Int32)) hx hb dX7_readPart_28 (by decide) ?_
      refine lv_istore_n (lv' := [(3, .int (120 : Int32)), (0, .ref (ad 7 0)), (1, .int x1), (2, .int x2)]) hx hb dX7_readPart_30 rfl hl (by decide) rfl (fun ls hl => ?_)
      refine lv_iconst (v := (0 : Int32)) hx hb dX7_readPart_31 (by decide) ?_
      refine lv_istore (lv' := [(4, .int (0 : Int32)), (3, .int (120 : Int32)), (0, .ref (ad 7 0)), (1, .int x1), (2, .int x2)]) hx hb dX7_readPart_32 hl (by decide) rfl (fun ls hl => ?_)
      have L5 : ∀ (n5 : Nat) (i6 : Int32) (M7 : Mem) (H : Heap) (locs : List Loc) (ls : Array Slot), Wd D cy A (cnC nS nL) ad M7 H → va_S A s.heap H locs → lv_has ls 6 [(0, .ref (ad 7 0)), (1, .int x1), (2, .int x2), (3, .int (120 : Int32)), (4, .int i6)] → fX7_readPart_l34 x1 rp x2 n5 i6 M7 = some (r, M') → W p l e (rm (F + 6) (L + 149)) s m args below meth c H locs 0 0 (MQ below (QV D cy A (cnC nS nL) ad r M') args s 0 0 A) (F0 m 34 ls []) := by
        intro n5
        induction n5 with
        | zero => intro i6 M7 H locs ls hW hS hl h; cases h
        | succ n5 ih5 =>
          intro i6 M7 H locs ls hW hS hl h
          unfold fX7_readPart_l34 fX7_readPart_b34 at h
          refine lv_iload hx hb dX7_readPart_34 (lv_at hl 4 rfl) ?_
          refine lv_iload_n hx hb dX7_readPart_36 rfl (lv_at hl 3 rfl) ?_
          refine lv_icmp_ge (tgt := 103) hx hb dX7_readPart_37 (by decide) (fun c8 => ?_) (fun c8 => ?_)
          · replace h := sh_t c8 h
            exact tb_vretE h hx hb hr hS hW hlk dX7_readPart_103
          · replace h := sh_f c8 h
            refine lv_aload_n hx hb dX7_readPart_40 rfl (lv_at hl 0 rfl) ?_
            refine gtX7_30 hx hb hts hown hK hW cz7 dX7_readPart_41 ?_
            refine lv_if_ge (tgt := 103) hx hb dX7_readPart_44 (by decide) (fun c9 => ?_) (fun c9 => ?_)
            · replace h := sh_t c9 h
              exact tb_vretE h hx hb hr hS hW hlk dX7_readPart_103
            · replace h := sh_f c9 h
              refine lv_aload_n hx hb dX7_readPart_47 rfl (lv_at hl 0 rfl) ?_
              refine lv_iload_n hx hb dX7_readPart_48 rfl (lv_at hl 1 rfl) ?_
              refine tb_cST hZk hx hb hml hown hts hK hZ hW hS [.int x1] (mX7_signsOf (l := l) hZk x1 M7 (fX7_signsOf x1) rfl) pmX7_signsOf tw967 ⟨(show 0 + 1 ≤ F + 6 by omega), (show 8 + (1 + 11) + (0) ≤ L + 149 by omega)⟩ rfl hl.1 (Nat.le_of_ble_eq_true rfl) ⟨Nat.le_refl _, Nat.le_refl _⟩ rfl dX7_readPart_49 (fun H locs hW hS hrr => ?_)
              have hq10 := hrr
              replace h := bd_a h
              obtain ⟨b11, hcb11, h⟩ := h
              refine tb_cVZ hZk hx hb hml hown hts hK hZ hW hS [.ref (K.1 (fX7_signsOf x1))] (mX7_sees (l := l) hZk (fX7_signsOf x1) M7 hq10 b11 hcb11) pmX7_sees tw947 (Wd.recv hK hW (t := 7) (by decide) cz7 (C := RX7) (T := TX7) (N := 5) rfl) ⟨(show 4 + 1 ≤ F + 6 by omega), (show 8 + (2 + 11) + (106) ≤ L + 149 by omega)⟩ rfl hl.1 (Nat.le_of_ble_eq_true rfl) ⟨Nat.le_refl _, Nat.le_refl _⟩ rfl dX7_readPart_52 (fun H locs hW hS hzz => ?_)
              have hzb11 := hzz
              refine lv_if_eq (tgt := 103) hx hb dX7_readPart_55 (by decide) (fun c12 => ?_) (fun c12 => ?_)
              · replace h := sh_t c12 h
                exact tb_vretE h hx hb hr hS hW hlk dX7_readPart_103
              · replace h := sh_f c12 h
                refine lv_aload_n hx hb dX7_readPart_58 rfl (lv_at hl 0 rfl) ?_
                refine gtX7_18 hx hb hts hown hK hW cz7 dX7_readPart_59 ?_
                refine lv_aload_n hx hb dX7_readPart_62 rfl (lv_at hl 0 rfl) ?_
                refine gtX7_27 hx hb hts hown hK hW cz7 dX7_readPart_63 ?_
                replace h := ix_a h
                obtain ⟨hj, h⟩ := h
                refine al39 hx hb hK hW cz39 hj dX7_readPart_66 ?_
                refine lv_topi (fun v13 ev13 => ?_)
                replace h := nm_a ev13 h
                refine lv_istore (lv' := [(5, .int v13), (0, .ref (ad 7 0)), (1, .int x1), (2, .int x2), (3, .int (120 : Int32)), (4, .int i6)]) hx hb dX7_readPart_67 hl (by decide) rfl (fun ls hl => ?_)
                refine lv_aload_n hx hb dX7_readPart_69 rfl (lv_at hl 1 rfl) ?_
                refine lv_dup hx hb dX7_readPart_70 rfl ?_
                refine gtX7_27 hx hb hts hown hK hW cz7 dX7_readPart_71 ?_
                refine lv_iconst (v := (1 : Int32)) hx hb dX7_readPart_74 (by decide) ?_
                refine lv_iadd hx hb dX7_readPart_75 ?_
                refine lv_topi (fun v14 ev14 => ?_)
                replace h := nm_a ev14 h
                refine ptX7_27 hx hb hts hown hK hW hS cz7 dX7_readPart_76 (fun H locs hW hS => ?_)
                obtain ⟨M15, eM15⟩ : ∃ y, y = msI M7 703 0 0 v14 := ⟨_, rfl⟩
                replace h := nm_a eM15 h
                rw [← eM15] at hW
                refine lv_aload_n hx hb dX7_readPart_79 rfl (lv_at hl 1 rfl) ?_
                refine lv_iload_n hx hb dX7_readPart_80 rfl (lv_at hl 2 rfl) ?_
                refine lv_iconst (v := (1 : Int32)) hx hb dX7_readPart_81 (by decide) ?_
                refine lv_iadd hx hb dX7_readPart_82 ?_
                refine lv_iload_n hx hb dX7_readPart_83 rfl (lv_at hl 3 rfl) ?_
                replace h := bE_a h
                obtain ⟨u16, M17, hcu16, h⟩ := h
                refine tb_cVV hZk hx hb hml hown hts hK hZ hW hS [.int (x1 + (1 : Int32)), .int x2] (hrp (x1 + (1 : Int32)) x2 M15 u16 M17 hcu16) pmX7_readPart tw938 (Wd.recv hK hW (t := 7) (by decide) cz7 (C := RX7) (T := TX7) (N := 5) rfl) ⟨(show F + 0 + 1 ≤ F + 6 by omega), (show 8 + (6 + 11) + (L + 0) ≤ L + 149 by omega)⟩ rfl hl.1 (Nat.le_of_ble_eq_true rfl) ⟨Nat.le_refl _, Nat.le_refl _⟩ rfl dX7_readPart_84 (fun H locs hW hS => ?_)
                refine lv_aload_n hx hb dX7_readPart_87 rfl (lv_at hl 1 rfl) ?_
                refine gtX7_12 hx hb hts hown hK hW cz7 dX7_readPart_88 ?_
                refine lv_iload hx hb dX7_readPart_91 (lv_at hl 0 rfl) ?_
                refine lv_ineg hx hb dX7_readPart_93 ?_
                replace h := bE_a h
                obtain ⟨u18, M19, hcu18, h⟩ := h
                refine tb_cVV hZk hx hb hml hown hts hK hZ hW hS [.int (-v13)] (mX10_add (l := l) hZk 2 (-v13) M17 cz10_2 u18 M19 hcu18) pmX10_add tw956 (Wd.recv hK hW (t := 10) (by decide) cz10_2 (C := RX10) (T := TX10) (N := 2) rfl) ⟨(show 0 + 1 ≤ F + 6 by omega), (show 8 + (2 + 11) + (0) ≤ L + 149 by omega)⟩ rfl hl.1 (Nat.le_of_ble_eq_true rfl) ⟨Nat.le_refl _, Nat.le_refl _⟩ rfl dX7_readPart_94 (fun H locs hW hS => ?_)
                obtain ⟨v20, ev20⟩ : ∃ y : Int32, y = i6 + (1 : Int32) := ⟨_, rfl⟩
                replace h := nm_a ev20 h
                refine lv_iinc (v := v20) (lv' := [(4, .int v20), (5, .int v13), (0, .ref (ad 7 0)), (1, .int x1), (2, .int x2), (3, .int (120 : Int32))]) hx hb dX7_readPart_97 hl (k := 5) rfl (by rw [ev20]; rfl) (by decide) rfl (fun ls hl => ?_)
                refine lv_goto (tgt := 34) hx hb dX7_readPart_100 (by decide) ?_
                exact ih5 v20 M19 _ _ _ hW hS (lv_sub hl [2, 3, 4, 5, 0] rfl) h
      exact L5 FU (0 : Int32) M3 _ _ _ hW hS (lv_sub hl [2, 3, 4, 1, 0] rfl) h
    · replace h := sh_t c4 h
      refine lv_iconst (v := (1 : Int32)) hx hb dX7_readPart_24 (by decide) ?_
      refine lv_goto (tgt := 30) hx hb dX7_readPart_25 (by decide) ?_
      refine lv_istore_n (lv' := [(3, .int (1 : Int32)), (0, .ref (ad 7 0)), (1, .int x1), (2, .int x2)]) hx hb dX7_readPart_30 rfl hl (by decide) rfl (fun ls hl => ?_)
      refine lv_iconst (v := (0 : Int32)) hx hb dX7_readPart_31 (by decide) ?_
      refine lv_istore (lv' := [(4, .int (0 : Int32)), (3, .int (1 : Int32)), (0, .ref (ad 7 0)), (1, .int x1), (2, .int x2)]) hx hb dX7_readPart_32 hl (by decide) rfl (fun ls hl => ?_)
      have L21 : ∀ (n21 : Nat) (i22 : Int32) (M23 : Mem) (H : Heap) (locs : List Loc) (ls : Array Slot), Wd D cy A (cnC nS nL) ad M23 H → va_S A s.heap H locs → lv_has ls 6 [(0, .ref (ad 7 0)), (1, .int x1), (2, .int x2), (3, .int (1 : Int32)), (4, .int i22)] → fX7_readPart_l34_21 x1 rp x2 n21 i22 M23 = some (r, M') → W p l e (rm (F + 6) (L + 149)) s m args below meth c H locs 0 0 (MQ below (QV D cy A (cnC nS nL) ad r M') args s 0 0 A) (F0 m 34 ls []) := by
        intro n21
        induction n21 with
        | zero => intro i22 M23 H locs ls hW hS hl h; cases h
        | succ n21 ih21 =>
          intro i22 M23 H locs ls hW hS hl h
          unfold fX7_readPart_l34_21 fX7_readPart_b34_21 at h
          refine lv_iload hx hb dX7_readPart_34 (lv_at hl 4 rfl) ?_
          refine lv_iload_n hx hb dX7_readPart_36 rfl (lv_at hl 3 rfl) ?_
          refine lv_icmp_ge (tgt := 103) hx hb dX7_readPart_37 (by decide) (fun c24 => ?_) (fun c24 => ?_)
          · replace h := sh_t c24 h
            exact tb_vretE h hx hb hr hS hW hlk dX7_readPart_103
          · replace h := sh_f c24 h
            refine lv_aload_n hx hb dX7_readPart_40 rfl (lv_at hl 0 rfl) ?_
            refine gtX7_30 hx hb hts hown hK hW cz7 dX7_readPart_41 ?_
            refine lv_if_ge (tgt := 103) hx hb dX7_readPart_44 (by decide) (fun c25 => ?_) (fun c25 => ?_)
            · replace h := sh_t c25 h
              exact tb_vretE h hx hb hr hS hW hlk dX7_readPart_103
            · replace h := sh_f c25 h
              refine lv_aload_n hx hb dX7_readPart_47 rfl (lv_at hl 0 rfl) ?_
              refine lv_iload_n hx hb dX7_readPart_48 rfl (lv_at hl 1 rfl) ?_
              refine tb_cST hZk hx hb hml hown hts hK hZ hW hS [.int x1] (mX7_signsOf (l := l) hZk x1 M23 (fX7_signsOf x1) rfl) pmX7_signsOf tw967 ⟨(show 0 + 1 ≤ F + 6 by omega), (show 8 + (1 + 11) + (0) ≤ L + 149 by omega)⟩ rfl hl.1 (Nat.le_of_ble_eq_true rfl) ⟨Nat.le_refl _, Nat.le_refl _⟩ rfl dX7_readPart_49 (fun H locs hW hS hrr => ?_)
              have hq26 := hrr
              replace h := bd_a h
              obtain ⟨b27, hcb27, h⟩ := h
              refine tb_cVZ hZk hx hb hml hown hts hK hZ hW hS [.ref (K.1 (fX7_signsOf x1))] (mX7_sees (l := l) hZk (fX7_signsOf x1) M23 hq26 b27 hcb27) pmX7_sees tw947 (Wd.recv hK hW (t := 7) (by decide) cz7 (C := RX7) (T := TX7) (N := 5) rfl) ⟨(show 4 + 1 ≤ F + 6 by omega), (show 8 + (2 + 11) + (106) ≤ L + 149 by omega)⟩ rfl hl.1 (Nat.le_of_ble_eq_true rfl) ⟨Nat.le_refl _, Nat.le_refl _⟩ rfl dX7_readPart_52 (fun H locs hW hS hzz => ?_)
              have hzb27 := hzz
              refine lv_if_eq (tgt := 103) hx hb dX7_readPart_55 (by decide) (fun c28 => ?_) (fun c28 => ?_)
              · replace h := sh_t c28 h
                exact tb_vretE h hx hb hr hS hW hlk dX7_readPart_103
              · replace h := sh_f c28 h
                refine lv_aload_n hx hb dX7_readPart_58 rfl (lv_at hl 0 rfl) ?_
                refine gtX7_18 hx hb hts hown hK hW cz7 dX7_readPart_59 ?_
                refine lv_aload_n hx hb dX7_readPart_62 rfl (lv_at hl 0 rfl) ?_
                refine gtX7_27 hx hb hts hown hK hW cz7 dX7_readPart_63 ?_
                replace h := ix_a h
                obtain ⟨hj, h⟩ := h
                refine al39 hx hb hK hW cz39 hj dX7_readPart_66 ?_
                refine lv_topi (fun v29 ev29 => ?_)
                replace h := nm_a ev29 h
                refine lv_istore (lv' := [(5, .int v29), (0, .ref (ad 7 0)), (1, .int x1), (2, .int x2), (3, .int (1 : Int32)), (4, .int i22)]) hx hb dX7_readPart_67 hl (by decide) rfl (fun ls hl => ?_)
                refine lv_aload_n hx hb dX7_readPart_69 rfl (lv_at hl 1 rfl) ?_
                refine lv_dup hx hb dX7_readPart_70 rfl ?_
                refine gtX7_27 hx hb hts hown hK hW cz7 dX7_readPart_71 ?_
                refine lv_iconst (v := (1 : Int32)) hx hb dX7_readPart_74 (by decide) ?_
                refine lv_iadd hx hb dX7_readPart_75 ?_
                refine lv_topi (fun v30 ev30 => ?_)
                replace h := nm_a ev30 h
                refine ptX7_27 hx hb hts hown hK hW hS cz7 dX7_readPart_76 (fun H locs hW hS => ?_)
                obtain ⟨M31, eM31⟩ : ∃ y, y = msI M23 703 0 0 v30 := ⟨_, rfl⟩
                replace h := nm_a eM31 h
                rw [← eM31] at hW
                refine lv_aload_n hx hb dX7_readPart_79 rfl (lv_at hl 1 rfl) ?_
                refine lv_iload_n hx hb dX7_readPart_80 rfl (lv_at hl 2 rfl) ?_
                refine lv_iconst (v := (1 : Int32)) hx hb dX7_readPart_81 (by decide) ?_
                refine lv_iadd hx hb dX7_readPart_82 ?_
                refine lv_iload_n hx hb dX7_readPart_83 rfl (lv_at hl 3 rfl) ?_
                replace h := bE_a h
                obtain ⟨u32, M33, hcu32, h⟩ := h
                refine tb_cVV hZk hx hb hml hown hts hK hZ hW hS [.int (x1 + (1 : Int32)), .int x2] (hrp (x1 + (1 : Int32)) x2 M31 u32 M33 hcu32) pmX7_readPart tw938 (Wd.recv hK hW (t := 7) (by decide) cz7 (C := RX7) (T := TX7) (N := 5) rfl) ⟨(show F + 0 + 1 ≤ F + 6 by omega), (show 8 + (6 + 11) + (L + 0) ≤ L + 149 by omega)⟩ rfl hl.1 (Nat.le_of_ble_eq_true rfl) ⟨Nat.le_refl _, Nat.le_refl _⟩ rfl dX7_readPart_84 (fun H locs hW hS => ?_)
                refine lv_aload_n hx hb dX7_readPart_87 rfl (lv_at hl 1 rfl) ?_
                refine gtX7_12 hx hb hts hown hK hW cz7 dX7_readPart_88 ?_
                refine lv_iload hx hb dX7_readPart_91 (lv_at hl 0 rfl) ?_
                refine lv_ineg hx hb dX7_readPart_93 ?_
                replace h := bE_a h
                obtain ⟨u34, M35, hcu34, h⟩ := h
                refine tb_cVV hZk hx hb hml hown hts hK hZ hW hS [.int (-v29)] (mX10_add (l := l) hZk 2 (-v29) M33 cz10_2 u34 M35 hcu34) pmX10_add tw956 (Wd.recv hK hW (t := 10) (by decide) cz10_2 (C := RX10) (T := TX10) (N := 2) rfl) ⟨(show 0 + 1 ≤ F + 6 by omega), (show 8 + (2 + 11) + (0) ≤ L + 149 by omega)⟩ rfl hl.1 (Nat.le_of_ble_eq_true rfl) ⟨Nat.le_refl _, Nat.le_refl _⟩ rfl dX7_readPart_94 (fun H locs hW hS => ?_)
                obtain ⟨v36, ev36⟩ : ∃ y : Int32, y = i22 + (1 : Int32) := ⟨_, rfl⟩
                replace h := nm_a ev36 h
                refine lv_iinc (v := v36) (lv' := [(4, .int v36), (5, .int v29), (0, .ref (ad 7 0)), (1, .int x1), (2, .int x2), (3, .int (1 : Int32))]) hx hb dX7_readPart_97 hl (k := 5) rfl (by rw [ev36]; rfl) (by decide) rfl (fun ls hl => ?_)
                refine lv_goto (tgt := 34) hx hb dX7_readPart_100 (by decide) ?_
                exact ih21 v36 M35 _ _ _ hW hS (lv_sub hl [2, 3, 4, 5, 0] rfl) h
      exact L21 FU (0 : Int32) M3 _ _ _ hW hS (lv_sub hl [2, 3, 4, 1, 0] rfl) h
  · replace h := sh_f c1 h
    refine lv_aload_n hx hb dX7_readPart_5 rfl (lv_at hl 0 rfl) ?_
    refine lv_iload_n hx hb dX7_readPart_6 rfl (lv_at hl 2 rfl) ?_
    replace h := bE_a h
    obtain ⟨u37, M38, hcu37, h⟩ := h
    refine tb_cVV hZk hx hb hml hown hts hK hZ hW hS [.int x2] (hro x2 M0 u37 M38 hcu37) pmX7_readOperand tw942 (Wd.recv hK hW (t := 7) (by decide) cz7 (C := RX7) (T := TX7) (N := 5) rfl) ⟨(show F + 0 + 1 ≤ F + 6 by omega), (show 8 + (2 + 11) + (L + 0) ≤ L + 149 by omega)⟩ rfl hl.1 (Nat.le_of_ble_eq_true rfl) ⟨Nat.le_refl _, Nat.le_refl _⟩ rfl dX7_readPart_7 (fun H locs hW hS => ?_)
    exact tb_vretE h hx hb hr hS hW hlk dX7_readPart_10
def fX7_readOperand (rn : Int32 → Int32 → Mem → Option (Unit × Mem)) (x1 : Int32) (M0 : Mem) : Option (Unit × Mem) :=
  bd (fX7_sees 0 M0) fun b1 => if b1 = 0 then (bd (fX7_sees 1 M0) fun b3 => if b3 = 0 then (bd (fX7_sees 2 M0) fun b5 => if b5 = 0 then (nm (mgI M0 703 0 0) fun v7 => nm (msI M0 704 0 0 v7) fun M8 => some ((), M8)) else (if (6 : Int32) ≤ x1 then (nm (mgI M0 703 0 0) fun v10 => nm (msI M0 704 0 0 v10) fun M11 => some ((), M11)) else (ix (mgI M0 703 0 0) 120 <| bE (rn (mgI M0 3900 0 (mgI M0 703 0 0).toNatClampNeg) (x1 + (1 : Int32)) M0) fun u12 M13 => some ((), M13)))) else (ix (mgI M0 703 0 0) 120 <| bE (fX10_add 2 (-(mgI M0 3900 0 (mgI M0 703 0 0).toNatClampNeg)) M0) fun u14 M15 => nm ((mgI M15 703 0 0) + (1 : Int32)) fun v16 => nm (msI M15 703 0 0 v16) fun M17 => some ((), M17))) else (bE (fX7_readNumber M0) fun u18 M19 => some ((), M19))
set_option maxHeartbeats 4000000 in
set_option maxRecDepth 100000 in
theorem mX7_readOperand {l : Launch} {D : va_G} {cy : Nat → ClassId} {A : Nat → Prop} {K : KC} {nS nL : Nat} {ad : Nat → Nat → Nat} (hZk : ZOK A (ZC A K)) (rn : Int32 → Int32 → Mem → Option (Unit × Mem)) (x1 : Int32) (M0 : Mem) (F L : Nat) (hrn : ∀ (x1 x2 : Int32) (M0 : Mem) (r : Unit) (M' : Mem), rn x1 x2 M0 = some (r, M') → Met l yX7_readOpened (wt yX7_readOpened cX7_readOpened 3 none) (rm (F) (L)) (CPre D cy A (ZC A K) (cnC nS nL) ad M0 [.ref (ad 7 0), .int x1, .int x2]) (QV D cy A (cnC nS nL) ad r M') 0 0 A) (r : Unit) (M' : Mem) (h : fX7_readOperand rn x1 M0 = some (r, M')) : Met l yX7_readOperand (wt yX7_readOperand cX7_readOperand 2 none) (rm (F + 6) (L + 149)) (CPre D cy A (ZC A K) (cnC nS nL) ad M0 [.ref (ad 7 0), .int x1]) (QV D cy A (cnC nS nL) ad r M') 0 0 A := by
  refine tb_start [.ref (ad 7 0), .int x1] [(0, .ref (ad 7 0)), (1, .int x1)] RX7 rfl (by decide +kernel) (Nat.le_of_ble_eq_true rfl) rfl (fun p e s m args below meth c hx hb hr hml hown hts hlk hW hK hZ ls hl => ?_)
  have hS : va_S A s.heap s.heap [] := va_S.rf
  unfold fX7_readOperand at h
  refine lv_aload_n hx hb dX7_readOperand_0 rfl (lv_at hl 0 rfl) ?_
  refine va_ldcS hx hb hown (zs0 hZ) dX7_readOperand_1 ?_
  replace h := bd_a h
  obtain ⟨b1, hcb1, h⟩ := h
  refine tb_cVZ hZk hx hb hml hown hts hK hZ hW hS [.ref (K.1 0)] (mX7_sees (l := l) hZk 0 M0 (by decide) b1 hcb1) pmX7_sees tw947 (Wd.recv hK hW (t := 7) (by decide) cz7 (C := RX7) (T := TX7) (N := 5) rfl) ⟨(show 4 + 1 ≤ F + 6 by omega), (show 8 + (2 + 11) + (106) ≤ L + 149 by omega)⟩ rfl hl.1 (Nat.le_of_ble_eq_true rfl) ⟨Nat.le_refl _, Nat.le_refl _⟩ rfl dX7_readOperand_3 (fun H locs hW hS hzz => ?_)
  have hzb1 := hzz
  refine lv_if_eq (tgt := 16) hx hb dX7_readOperand_6 (by decide) (fun c2 => ?_) (fun c2 => ?_)
  · replace h := sh_t c2 h
    refine lv_aload_n hx hb dX7_readOperand_16 rfl (lv_at hl 0 rfl) ?_
    refine va_ldcS hx hb hown (zs1 hZ) dX7_readOperand_17 ?_
    replace h := bd_a h
    obtain ⟨b3, hcb3, h⟩ := h
    refine tb_cVZ hZk hx hb hml hown hts hK hZ hW hS [.ref (K.1 1)] (mX7_sees (l := l) hZk 1 M0 (by decide) b3 hcb3) pmX7_sees tw947 (Wd.recv hK hW (t := 7) (by decide) cz7 (C := RX7) (T := TX7) (N := 5) rfl) ⟨(show 4 + 1 ≤ F + 6 by omega), (show 8 + (2 + 11) + (106) ≤ L + 149 by omega)⟩ rfl hl.1 (Nat.le_of_ble_eq_true rfl) ⟨Nat.le_refl _, Nat.le_refl _⟩ rfl dX7_readOperand_19 (fun H locs hW hS hzz => ?_)
    have hzb3 := hzz
    refine lv_if_eq (tgt := 55) hx hb dX7_readOperand_22 (by decide) (fun c4 => ?_) (fun c4 => ?_)
    · replace h := sh_t c4 h
      refine lv_aload_n hx hb dX7_readOperand_55 rfl (lv_at hl 0 rfl) ?_
      refine va_ldcS hx hb hown (zs2 hZ) dX7_readOperand_56 ?_
      replace h := bd_a h
      obtain ⟨b5, hcb5, h⟩ := h
      refine tb_cVZ hZk hx hb hml hown hts hK hZ hW hS [.ref (K.1 2)] (mX7_sees (l := l) hZk 2 M0 (by decide) b5 hcb5) pmX7_sees tw947 (Wd.recv hK hW (t := 7) (by decide) cz7 (C := RX7) (T := TX7) (N := 5) rfl) ⟨(show 4 + 1 ≤ F + 6 by omega), (show 8 + (2 + 11) + (106) ≤ L + 149 by omega)⟩ rfl hl.1 (Nat.le_of_ble_eq_true rfl) ⟨Nat.le_refl _, Nat.le_refl _⟩ rfl dX7_readOperand_58 (fun H locs hW hS hzz => ?_)
      have hzb5 := hzz
      refine lv_if_eq (tgt := 89) hx hb dX7_readOperand_61 (by decide) (fun c6 => ?_) (fun c6 => ?_)
      · replace h := sh_t c6 h
        refine lv_aload_n hx hb dX7_readOperand_89 rfl (lv_at hl 0 rfl) ?_
        refine lv_aload_n hx hb dX7_readOperand_90 rfl (lv_at hl 0 rfl) ?_
        refine gtX7_27 hx hb hts hown hK hW cz7 dX7_readOperand_91 ?_
        refine lv_topi (fun v7 ev7 => ?_)
        replace h := nm_a ev7 h
        refine ptX7_30 hx hb hts hown hK hW hS cz7 dX7_readOperand_94 (fun H locs hW hS => ?_)
        obtain ⟨M8, eM8⟩ : ∃ y, y = msI M0 704 0 0 v7 := ⟨_, rfl⟩
        replace h := nm_a eM8 h
        rw [← eM8] at hW
        exact tb_vretE h hx hb hr hS hW hlk dX7_readOperand_97
      · replace h := sh_f c6 h
        refine lv_iload_n hx hb dX7_readOperand_64 rfl (lv_at hl 1 rfl) ?_
        refine lv_bipush (v := (6 : Int32)) hx hb dX7_readOperand_65 (by decide) ?_
        refine lv_icmp_ge (tgt := 89) hx hb dX7_readOperand_67 (by decide) (fun c9 => ?_) (fun c9 => ?_)
        · replace h := sh_t c9 h
          refine lv_aload_n hx hb dX7_readOperand_89 rfl (lv_at hl 0 rfl) ?_
          refine lv_aload_n hx hb dX7_readOperand_90 rfl (lv_at hl 0 rfl) ?_
          refine gtX7_27 hx hb hts hown hK hW cz7 dX7_readOperand_91 ?_
          refine lv_topi (fun v10 ev10 => ?_)
          replace h := nm_a ev10 h
          refine ptX7_30 hx hb hts hown hK hW hS cz7 dX7_readOperand_94 (fun H locs hW hS => ?_)
          obtain ⟨M11, eM11⟩ : ∃ y, y = msI M0 704 0 0 v10 := ⟨_, rfl⟩
          replace h := nm_a eM11 h
          rw [← eM11] at hW
          exact tb_vretE h hx hb hr hS hW hlk dX7_readOperand_97
        · replace h := sh_f c9 h
          refine lv_aload_n hx hb dX7_readOperand_70 rfl (lv_at hl 0 rfl) ?_
          refine lv_aload_n hx hb dX7_readOperand_71 rfl (lv_at hl 0 rfl) ?_
          refine gtX7_18 hx hb hts hown hK hW cz7 dX7_readOperand_72 ?_
          refine lv_aload_n hx hb dX7_readOperand_75 rfl (lv_at hl 0 rfl) ?_
          refine gtX7_27 hx hb hts hown hK hW cz7 dX7_readOperand_76 ?_
          replace h := ix_a h
          obtain ⟨hj, h⟩ := h
          refine al39 hx hb hK hW cz39 hj dX7_readOperand_79 ?_
          refine lv_iload_n hx hb dX7_readOperand_80 rfl (lv_at hl 1 rfl) ?_
          refine lv_iconst (v := (1 : Int32)) hx hb dX7_readOperand_81 (by decide) ?_
          refine lv_iadd hx hb dX7_readOperand_82 ?_
          replace h := bE_a h
          obtain ⟨u12, M13, hcu12, h⟩ := h
          refine tb_cVV hZk hx hb hml hown hts hK hZ hW hS [.int (mgI M0 3900 0 (mgI M0 703 0 0).toNatClampNeg), .int (x1 + (1 : Int32))] (hrn (mgI M0 3900 0 (mgI M0 703 0 0).toNatClampNeg) (x1 + (1 : Int32)) M0 u12 M13 hcu12) pmX7_readOpened tw962 (Wd.recv hK hW (t := 7) (by decide) cz7 (C := RX7) (T := TX7) (N := 5) rfl) ⟨(show F + 0 + 1 ≤ F + 6 by omega), (show 8 + (3 + 11) + (L + 0) ≤ L + 149 by omega)⟩ rfl hl.1 (Nat.le_of_ble_eq_true rfl) ⟨Nat.le_refl _, Nat.le_refl _⟩ rfl dX7_readOperand_83 (fun H locs hW hS => ?_)
          refine lv_goto (tgt := 97) hx hb dX7_readOperand_86 (by decide) ?_
          exact tb_vretE h hx hb hr hS hW hlk dX7_readOperand_97
    · replace h := sh_f c4 h
      refine lv_aload_n hx hb dX7_readOperand_25 rfl (lv_at hl 0 rfl) ?_
      refine gtX7_12 hx hb hts hown hK hW cz7 dX7_readOperand_26 ?_
      refine lv_aload_n hx hb dX7_readOperand_29 rfl (lv_at hl 0 rfl) ?_
      refine gtX7_18 hx hb hts hown hK hW cz7 dX7_readOperand_30 ?_
      refine lv_aload_n hx hb dX7_readOperand_33 rfl (lv_at hl 0 rfl) ?_
      refine gtX7_27 hx hb hts hown hK hW cz7 dX7_readOperand_34 ?_
      replace h := ix_a h
      obtain ⟨hj, h⟩ := h
      refine al39 hx hb hK hW cz39 hj dX7_readOperand_37 ?_
      refine lv_ineg hx hb dX7_readOperand_38 ?_
      replace h := bE_a h
      obtain ⟨u14, M15, hcu14, h⟩ := h
      refine tb_cVV hZk hx hb hml hown hts hK hZ hW hS [.int (-(mgI M0 3900 0 (mgI M0 703 0 0).toNatClampNeg))] (mX10_add (l := l) hZk 2 (-(mgI M0 3900 0 (mgI M0 703 0 0).toNatClampNeg)) M0 cz10_2 u14 M15 hcu14) pmX10_add tw956 (Wd.recv hK hW (t := 10) (by decide) cz10_2 (C := RX10) (T := TX10) (N := 2) rfl) ⟨(show 0 + 1 ≤ F + 6 by omega), (show 8 + (2 + 11) + (0) ≤ L + 149 by omega)⟩ rfl hl.1 (Nat.le_of_ble_eq_true rfl) ⟨Nat.le_refl _, Nat.le_refl _⟩ rfl dX7_readOperand_39 (fun H locs hW hS => ?_)
      refine lv_aload_n hx hb dX7_readOperand_42 rfl (lv_at hl 0 rfl) ?_
      refine lv_dup hx hb dX7_readOperand_43 rfl ?_
      refine gtX7_27 hx hb hts hown hK hW cz7 dX7_readOperand_44 ?_
      refine lv_iconst (v := (1 : Int32)) hx hb dX7_readOperand_47 (by decide) ?_
      refine lv_iadd hx hb dX7_readOperand_48 ?_
      refine lv_topi (fun v16 ev16 => ?_)
      replace h := nm_a ev16 h
      refine ptX7_27 hx hb hts hown hK hW hS cz7 dX7_readOperand_49 (fun H locs hW hS => ?_)
      obtain ⟨M17, eM17⟩ : ∃ y, y = msI M15 703 0 0 v16 := ⟨_, rfl⟩
      replace h := nm_a eM17 h
      rw [← eM17] at hW
      refine lv_goto (tgt := 97) hx hb dX7_readOperand_52 (by decide) ?_
      exact tb_vretE h hx hb hr hS hW hlk dX7_readOperand_97
  · replace h := sh_f c2 h
    refine lv_aload_n hx hb dX7_readOperand_9 rfl (lv_at hl 0 rfl) ?_
    replace h := bE_a h
    obtain ⟨u18, M19, hcu18, h⟩ := h
    refine tb_cVV hZk hx hb hml hown hts hK hZ hW hS [] (mX7_readNumber (l := l) hZk M0 u18 M19 hcu18) pmX7_readNumber tw952 (Wd.recv hK hW (t := 7) (by decide) cz7 (C := RX7) (T := TX7) (N := 5) rfl) ⟨(show 5 + 1 ≤ F + 6 by omega), (show 8 + (3 + 11) + (127) ≤ L + 149 by omega)⟩ rfl hl.1 (Nat.le_of_ble_eq_true rfl) ⟨Nat.le_refl _, Nat.le_refl _⟩ rfl dX7_readOperand_10 (fun H locs hW hS => ?_)
    refine lv_goto (tgt := 97) hx hb dX7_readOperand_13 (by decide) ?_
    exact tb_vretE h hx hb hr hS hW hlk dX7_readOperand_97
def fX7_readOpened (rp : Int32 → Int32 → Mem → Option (Unit × Mem)) (ro : Int32 → Mem → Option (Unit × Mem)) (x1 : Int32) (x2 : Int32) (M0 : Mem) : Option (Unit × Mem) :=
  nm ((mgI M0 703 0 0) + (1 : Int32)) fun v1 => nm (msI M0 703 0 0 v1) fun M2 => if x1 = (40 : Int32) then (bE (rp (0 : Int32) x2 M2) fun u4 M5 => if 0 ≤ (mgI M5 704 0 0) then (if 0 ≤ (mgI M5 704 0 0) then (some ((), M5)) else (nm (mgI M5 703 0 0) fun v8 => nm (msI M5 704 0 0 v8) fun M9 => some ((), M9))) else (bd (fX7_sees 3 M5) fun b10 => if b10 = 0 then (if 0 ≤ (mgI M5 704 0 0) then (some ((), M5)) else (nm (mgI M5 703 0 0) fun v13 => nm (msI M5 704 0 0 v13) fun M14 => some ((), M14))) else (nm ((mgI M5 703 0 0) + (1 : Int32)) fun v15 => nm (msI M5 703 0 0 v15) fun M16 => some ((), M16)))) else (bE (ro x2 M2) fun u17 M18 => if x1 = (45 : Int32) then (bE (fX10_add 2 (-126 : Int32) M18) fun u22 M23 => some ((), M23)) else (bE (fX10_add 2 (-x1) M18) fun u20 M21 => some ((), M21)))
set_option maxHeartbeats 4000000 in
set_option maxRecDepth 100000 in
theorem mX7_readOpened {l : Launch} {D : va_G} {cy : Nat → ClassId} {A : Nat → Prop} {K : KC} {nS nL : Nat} {ad : Nat → Nat → Nat} (hZk : ZOK A (ZC A K)) (rp : Int32 → Int32 → Mem → Option (Unit × Mem)) (ro : Int32 → Mem → Option (Unit × Mem)) (x1 : Int32) (x2 : Int32) (M0 : Mem) (F L : Nat) (hrp : ∀ (x1 x2 : Int32) (M0 : Mem) (r : Unit) (M' : Mem), rp x1 x2 M0 = some (r, M') → Met l yX7_readPart (wt yX7_readPart cX7_readPart 6 none) (rm (F) (L)) (CPre D cy A (ZC A K) (cnC nS nL) ad M0 [.ref (ad 7 0), .int x1, .int x2]) (QV D cy A (cnC nS nL) ad r M') 0 0 A) (hro : ∀ (x1 : Int32) (M0 : Mem) (r : Unit) (M' : Mem), ro x1 M0 = some (r, M') → Met l yX7_readOperand (wt yX7_readOperand cX7_readOperand 2 none) (rm (F) (L)) (CPre D cy A (ZC A K) (cnC nS nL) ad M0 [.ref (ad 7 0), .int x1]) (QV D cy A (cnC nS nL) ad r M') 0 0 A) (r : Unit) (M' : Mem) (h : fX7_readOpened rp ro x1 x2 M0 = some (r, M')) : Met l yX7_readOpened (wt yX7_readOpened cX7_readOpened 3 none) (rm (F + 6) (L + 149)) (CPre D cy A (ZC A K) (cnC nS nL) ad M0 [.ref (ad 7 0), .int x1, .int x2]) (QV D cy A (cnC nS nL) ad r M') 0 0 A := by
  refine tb_start [.ref (ad 7 0), .int x1, .int x2] [(0, .ref (ad 7 0)), (1, .int x1), (2, .int x2)] RX7 rfl (by decide +kernel) (Nat.le_of_ble_eq_true rfl) rfl (fun p e s m args below meth c hx hb hr hml hown hts hlk hW hK hZ ls hl => ?_)
  have hS : va_S A s.heap s.heap [] := va_S.rf
  unfold fX7_readOpened at h
  refine lv_aload_n hx hb dX7_readOpened_0 rfl (lv_at hl 0 rfl) ?_
  refine lv_dup hx hb dX7_readOpened_1 rfl ?_
  refine gtX7_27 hx hb hts hown hK hW cz7 dX7_readOpened_2 ?_
  refine lv_iconst (v := (1 : Int32)) hx hb dX7_readOpened_5 (by decide) ?_
  refine lv_iadd hx hb dX7_readOpened_6 ?_
  refine lv_topi (fun v1 ev1 => ?_)
  replace h := nm_a ev1 h
  refine ptX7_27 hx hb hts hown hK hW hS cz7 dX7_readOpened_7 (fun H locs hW hS => ?_)
  obtain ⟨M2, eM2⟩ : ∃ y, y = msI M0 703 0 0 v1 := ⟨_, rfl⟩
  replace h := nm_a eM2 h
  rw [← eM2] at hW
  refine lv_iload_n hx hb dX7_readOpened_10 rfl (lv_at hl 1 rfl) ?_
  refine lv_bipush (v := (40 : Int32)) hx hb dX7_readOpened_11 (by decide) ?_
  refine lv_icmp_eq (tgt := 42) hx hb dX7_readOpened_13 (by decide) (fun c3 => ?_) (fun c3 => ?_)
  · replace h := sh_t c3 h
    refine lv_aload_n hx hb dX7_readOpened_42 rfl (lv_at hl 0 rfl) ?_
    refine lv_iconst (v := (0 : Int32)) hx hb dX7_readOpened_43 (by decide) ?_
    refine lv_iload_n hx hb dX7_readOpened_44 rfl (lv_at hl 2 rfl) ?_
    replace h := bE_a h
    obtain ⟨u4, M5, hcu4, h⟩ := h
    refine tb_cVV hZk hx hb hml hown hts hK hZ hW hS [.int (0 : Int32), .int x2] (hrp (0 : Int32) x2 M2 u4 M5 hcu4) pmX7_readPart tw938 (Wd.recv hK hW (t := 7) (by decide) cz7 (C := RX7) (T := TX7) (N := 5) rfl) ⟨(show F + 0 + 1 ≤ F + 6 by omega), (show 8 + (6 + 11) + (L + 0) ≤ L + 149 by omega)⟩ rfl hl.1 (Nat.le_of_ble_eq_true rfl) ⟨Nat.le_refl _, Nat.le_refl _⟩ rfl dX7_readOpened_45 (fun H locs hW hS => ?_)
    refine lv_aload_n hx hb dX7_readOpened_48 rfl (lv_at hl 0 rfl) ?_
    refine gtX7_30 hx hb hts hown hK hW cz7 dX7_readOpened_49 ?_
    refine lv_if_ge (tgt := 77) hx hb dX7_readOpened_52 (by decide) (fun c6 => ?_) (fun c6 => ?_)
    · replace h := sh_t c6 h
      refine lv_aload_n hx hb dX7_readOpened_77 rfl (lv_at hl 0 rfl) ?_
      refine gtX7_30 hx hb hts hown hK hW cz7 dX7_readOpened_78 ?_
      refine lv_if_ge (tgt := 92) hx hb dX7_readOpened_81 (by decide) (fun c7 => ?_) (fun c7 => ?_)
      · replace h := sh_t c7 h
        exact tb_vretE h hx hb hr hS hW hlk dX7_readOpened_92
      · replace h := sh_f c7 h
        refine lv_aload_n hx hb dX7_readOpened_84 rfl (lv_at hl 0 rfl) ?_
        refine lv_aload_n hx hb dX7_readOpened_85 rfl (lv_at hl 0 rfl) ?_
        refine gtX7_27 hx hb hts hown hK hW cz7 dX7_readOpened_86 ?_
        refine lv_topi (fun v8 ev8 => ?_)
        replace h := nm_a ev8 h
        refine ptX7_30 hx hb hts hown hK hW hS cz7 dX7_readOpened_89 (fun H locs hW hS => ?_)
        obtain ⟨M9, eM9⟩ : ∃ y, y = msI M5 704 0 0 v8 := ⟨_, rfl⟩
        replace h := nm_a eM9 h
        rw [← eM9] at hW
        exact tb_vretE h hx hb hr hS hW hlk dX7_readOpened_92
    · replace h := sh_f c6 h
      refine lv_aload_n hx hb dX7_readOpened_55 rfl (lv_at hl 0 rfl) ?_
      refine va_ldcS hx hb hown (zs3 hZ) dX7_readOpened_56 ?_
      replace h := bd_a h
      obtain ⟨b10, hcb10, h⟩ := h
      refine tb_cVZ hZk hx hb hml hown hts hK hZ hW hS [.ref (K.1 3)] (mX7_sees (l := l) hZk 3 M5 (by decide) b10 hcb10) pmX7_sees tw947 (Wd.recv hK hW (t := 7) (by decide) cz7 (C := RX7) (T := TX7) (N := 5) rfl) ⟨(show 4 + 1 ≤ F + 6 by omega), (show 8 + (2 + 11) + (106) ≤ L + 149 by omega)⟩ rfl hl.1 (Nat.le_of_ble_eq_true rfl) ⟨Nat.le_refl _, Nat.le_refl _⟩ rfl dX7_readOpened_58 (fun H locs hW hS hzz => ?_)
      have hzb10 := hzz
      refine lv_if_eq (tgt := 77) hx hb dX7_readOpened_61 (by decide) (fun c11 => ?_) (fun c11 => ?_)
      · replace h := sh_t c11 h
        refine lv_aload_n hx hb dX7_readOpened_77 rfl (lv_at hl 0 rfl) ?_
        refine gtX7_30 hx hb hts hown hK hW cz7 dX7_readOpened_78 ?_
        refine lv_if_ge (tgt := 92) hx hb dX7_readOpened_81 (by decide) (fun c12 => ?_) (fun c12 => ?_)
        · replace h := sh_t c12 h
          exact tb_vretE h hx hb hr hS hW hlk dX7_readOpened_92
        · replace h := sh_f c12 h
          refine lv_aload_n hx hb dX7_readOpened_84 rfl (lv_at hl 0 rfl) ?_
          refine lv_aload_n hx hb dX7_readOpened_85 rfl (lv_at hl 0 rfl) ?_
          refine gtX7_27 hx hb hts hown hK hW cz7 dX7_readOpened_86 ?_
          refine lv_topi (fun v13 ev13 => ?_)
          replace h := nm_a ev13 h
          refine ptX7_30 hx hb hts hown hK hW hS cz7 dX7_readOpened_89 (fun H locs hW hS => ?_)
          obtain ⟨M14, eM14⟩ : ∃ y, y = msI M5 704 0 0 v13 := ⟨_, rfl⟩
          replace h := nm_a eM14 h
          rw [← eM14] at hW
          exact tb_vretE h hx hb hr hS hW hlk dX7_readOpened_92
      · replace h := sh_f c11 h
        refine lv_aload_n hx hb dX7_readOpened_64 rfl (lv_at hl 0 rfl) ?_
        refine lv_dup hx hb dX7_readOpened_65 rfl ?_
        refine gtX7_27 hx hb hts hown hK hW cz7 dX7_readOpened_66 ?_
        refine lv_iconst (v := (1 : Int32)) hx hb dX7_readOpened_69 (by decide) ?_
        refine lv_iadd hx hb dX7_readOpened_70 ?_
        refine lv_topi (fun v15 ev15 => ?_)
        replace h := nm_a ev15 h
        refine ptX7_27 hx hb hts hown hK hW hS cz7 dX7_readOpened_71 (fun H locs hW hS => ?_)
        obtain ⟨M16, eM16⟩ : ∃ y, y = msI M5 703 0 0 v15 := ⟨_, rfl⟩
        replace h := nm_a eM16 h
        rw [← eM16] at hW
        refine lv_goto (tgt := 92) hx hb dX7_readOpened_74 (by decide) ?_
        exact tb_vretE h hx hb hr hS hW hlk dX7_readOpened_92
  · replace h := sh_f c3 h
    refine lv_aload_n hx hb dX7_readOpened_16 rfl (lv_at hl 0 rfl) ?_
    refine lv_iload_n hx hb dX7_readOpened_17 rfl (lv_at hl 2 rfl) ?_
    replace h := bE_a h
    obtain ⟨u17, M18, hcu17, h⟩ := h
    refine tb_cVV hZk hx hb hml hown hts hK hZ hW hS [.int x2] (hro x2 M2 u17 M18 hcu17) pmX7_readOperand tw942 (Wd.recv hK hW (t := 7) (by decide) cz7 (C := RX7) (T := TX7) (N := 5) rfl) ⟨(show F + 0 + 1 ≤ F + 6 by omega), (show 8 + (2 + 11) + (L + 0) ≤ L + 149 by omega)⟩ rfl hl.1 (Nat.le_of_ble_eq_true rfl) ⟨Nat.le_refl _, Nat.le_refl _⟩ rfl dX7_readOpened_18 (fun H locs hW hS => ?_)
    refine lv_aload_n hx hb dX7_readOpened_21 rfl (lv_at hl 0 rfl) ?_
    refine gtX7_12 hx hb hts hown hK hW cz7 dX7_readOpened_22 ?_
    refine lv_iload_n hx hb dX7_readOpened_25 rfl (lv_at hl 1 rfl) ?_
    refine lv_bipush (v := (45 : Int32)) hx hb dX7_readOpened_26 (by decide) ?_
    refine lv_icmp_ne (tgt := 36) hx hb dX7_readOpened_28 (by decide) (fun c19 => ?_) (fun c19 => ?_)
    · replace h := sh_f c19 h
      refine lv_iload_n hx hb dX7_readOpened_36 rfl (lv_at hl 1 rfl) ?_
      refine lv_ineg hx hb dX7_readOpened_37 ?_
      replace h := bE_a h
      obtain ⟨u20, M21, hcu20, h⟩ := h
      refine tb_cVV hZk hx hb hml hown hts hK hZ hW hS [.int (-x1)] (mX10_add (l := l) hZk 2 (-x1) M18 cz10_2 u20 M21 hcu20) pmX10_add tw956 (Wd.recv hK hW (t := 10) (by decide) cz10_2 (C := RX10) (T := TX10) (N := 2) rfl) ⟨(show 0 + 1 ≤ F + 6 by omega), (show 8 + (2 + 11) + (0) ≤ L + 149 by omega)⟩ rfl hl.1 (Nat.le_of_ble_eq_true rfl) ⟨Nat.le_refl _, Nat.le_refl _⟩ rfl dX7_readOpened_38 (fun H locs hW hS => ?_)
      exact tb_vretE h hx hb hr hS hW hlk dX7_readOpened_41
    · replace h := sh_t c19 h
      refine lv_bipush (v := (-126 : Int32)) hx hb dX7_readOpened_31 (by decide) ?_
      refine lv_goto (tgt := 38) hx hb dX7_readOpened_33 (by decide) ?_
      replace h := bE_a h
      obtain ⟨u22, M23, hcu22, h⟩ := h
      refine tb_cVV hZk hx hb hml hown hts hK hZ hW hS [.int (-126 : Int32)] (mX10_add (l := l) hZk 2 (-126 : Int32) M18 cz10_2 u22 M23 hcu22) pmX10_add tw956 (Wd.recv hK hW (t := 10) (by decide) cz10_2 (C := RX10) (T := TX10) (N := 2) rfl) ⟨(show 0 + 1 ≤ F + 6 by omega), (show 8 + (2 + 11) + (0) ≤ L + 149 by omega)⟩ rfl hl.1 (Nat.le_of_ble_eq_true rfl) ⟨Nat.le_refl _, Nat.le_refl _⟩ rfl dX7_readOpened_38 (fun H locs hW hS => ?_)
      exact tb_vretE h hx hb hr hS hW hlk dX7_readOpened_41
/-- reading at most n deep: 0 a part, 1 an operand, 2 what is opened -/
def fX7_rd : Nat → Nat → Int32 → Int32 → Mem → Option (Unit × Mem)
  | 0, _, _, _, _ => none
  | n + 1, 0, x, y, M => fX7_readPart (fX7_rd n 0) (fun x M => fX7_rd n 1 x 0 M) x y M
  | n + 1, 1, x, _, M => fX7_readOperand (fX7_rd n 2) x M
  | n + 1, _ + 2, x, y, M => fX7_readOpened (fX7_rd n 0) (fun x M => fX7_rd n 1 x 0 M) x y M
theorem mX7_rd {l : Launch} {D : va_G} {cy : Nat → ClassId} {A : Nat → Prop} {K : KC} {nS nL : Nat} {ad : Nat → Nat → Nat} (hZk : ZOK A (ZC A K)) (n : Nat) : (∀ (x1 x2 : Int32) (M0 : Mem) (r : Unit) (M' : Mem), fX7_rd n 0 x1 x2 M0 = some (r, M') → Met l yX7_readPart (wt yX7_readPart cX7_readPart 6 none) (rm (6 * n) (149 * n)) (CPre D cy A (ZC A K) (cnC nS nL) ad M0 [.ref (ad 7 0), .int x1, .int x2]) (QV D cy A (cnC nS nL) ad r M') 0 0 A) ∧ (∀ (x1 : Int32) (M0 : Mem) (r : Unit) (M' : Mem), (fun x M => fX7_rd n 1 x 0 M) x1 M0 = some (r, M') → Met l yX7_readOperand (wt yX7_readOperand cX7_readOperand 2 none) (rm (6 * n) (149 * n)) (CPre D cy A (ZC A K) (cnC nS nL) ad M0 [.ref (ad 7 0), .int x1]) (QV D cy A (cnC nS nL) ad r M') 0 0 A) ∧ (∀ (x1 x2 : Int32) (M0 : Mem) (r : Unit) (M' : Mem), fX7_rd n 2 x1 x2 M0 = some (r, M') → Met l yX7_readOpened (wt yX7_readOpened cX7_readOpened 3 none) (rm (6 * n) (149 * n)) (CPre D cy A (ZC A K) (cnC nS nL) ad M0 [.ref (ad 7 0), .int x1, .int x2]) (QV D cy A (cnC nS nL) ad r M') 0 0 A) := by
  induction n with
  | zero => exact ⟨fun x1 x2 M0 r M' h => (by cases h), fun x1 M0 r M' h => (by cases h), fun x1 x2 M0 r M' h => (by cases h)⟩
  | succ n ih =>
    obtain ⟨h0, h1, h2⟩ := ih
    exact ⟨fun x1 x2 M0 r M' h => (mX7_readPart hZk (fX7_rd n 0) (fun x M => fX7_rd n 1 x 0 M) x1 x2 M0 (6 * n) (149 * n) h0 h1 r M' h),
      fun x1 M0 r M' h => (mX7_readOperand hZk (fX7_rd n 2) x1 M0 (6 * n) (149 * n) h2 r M' h),
      fun x1 x2 M0 r M' h => (mX7_readOpened hZk (fX7_rd n 0) (fun x M => fX7_rd n 1 x 0 M) x1 x2 M0 (6 * n) (149 * n) h0 h1 r M' h)⟩
def fX7_readPartT (x1 x2 : Int32) (M : Mem) : Option (Unit × Mem) := fX7_rd 64 0 x1 x2 M
theorem mX7_readPartT {l : Launch} {D : va_G} {cy : Nat → ClassId} {A : Nat → Prop} {K : KC} {nS nL : Nat} {ad : Nat → Nat → Nat} (hZk : ZOK A (ZC A K)) (x1 x2 : Int32) (M0 : Mem) (r : Unit) (M' : Mem) (h : fX7_readPartT x1 x2 M0 = some (r, M')) : Met l yX7_readPart (wt yX7_readPart cX7_readPart 6 none) (rm 384 9536) (CPre D cy A (ZC A K) (cnC nS nL) ad M0 [.ref (ad 7 0), .int x1, .int x2]) (QV D cy A (cnC nS nL) ad r M') 0 0 A := (mX7_rd hZk 64).1 x1 x2 M0 r M' h
def fX7_readLine (M0 : Mem) : Option (Unit × Mem) :=
  bE (fX7_readPartT (0 : Int32) (0 : Int32) M0) fun u1 M2 => if 0 ≤ (mgI M2 704 0 0) then (bE (fX10_add 2 (-59 : Int32) M2) fun u4 M5 => some ((), M5)) else (bd (fX7_sees 9 M2) fun b6 => if b6 = 0 then (bE (fX10_add 2 (-59 : Int32) M2) fun u8 M9 => some ((), M9)) else (nm ((mgI M2 703 0 0) + (1 : Int32)) fun v10 => nm (msI M2 703 0 0 v10) fun M11 => bE (fX10_add 2 (-63 : Int32) M11) fun u12 M13 => bE (fX7_readPartT (0 : Int32) (0 : Int32) M13) fun u14 M15 => bE (fX10_add 2 (-59 : Int32) M15) fun u16 M17 => some ((), M17)))
set_option maxHeartbeats 4000000 in
set_option maxRecDepth 100000 in
theorem mX7_readLine {l : Launch} {D : va_G} {cy : Nat → ClassId} {A : Nat → Prop} {K : KC} {nS nL : Nat} {ad : Nat → Nat → Nat} (hZk : ZOK A (ZC A K)) (M0 : Mem) (r : Unit) (M' : Mem) (h : fX7_readLine M0 = some (r, M')) : Met l yX7_readLine (wt yX7_readLine cX7_readLine 1 none) (rm 385 9561) (CPre D cy A (ZC A K) (cnC nS nL) ad M0 [.ref (ad 7 0)]) (QV D cy A (cnC nS nL) ad r M') 0 0 A := by
  refine tb_start [.ref (ad 7 0)] [(0, .ref (ad 7 0))] RX7 rfl (by decide +kernel) (Nat.le_of_ble_eq_true rfl) rfl (fun p e s m args below meth c hx hb hr hml hown hts hlk hW hK hZ ls hl => ?_)
  have hS : va_S A s.heap s.heap [] := va_S.rf
  unfold fX7_readLine at h
  refine lv_aload_n hx hb dX7_readLine_0 rfl (lv_at hl 0 rfl) ?_
  refine lv_iconst (v := (0 : Int32)) hx hb dX7_readLine_1 (by decide) ?_
  refine lv_iconst (v := (0 : Int32)) hx hb dX7_readLine_2 (by decide) ?_
  replace h := bE_a h
  obtain ⟨u1, M2, hcu1, h⟩ := h
  refine tb_cVV hZk hx hb hml hown hts hK hZ hW hS [.int (0 : Int32), .int (0 : Int32)] (mX7_readPartT (l := l) hZk (0 : Int32) (0 : Int32) M0 u1 M2 hcu1) pmX7_readPart tw938 (Wd.recv hK hW (t := 7) (by decide) cz7 (C := RX7) (T := TX7) (N := 5) rfl) ⟨Nat.le_of_ble_eq_true rfl, Nat.le_of_ble_eq_true rfl⟩ rfl hl.1 (Nat.le_of_ble_eq_true rfl) ⟨Nat.le_refl _, Nat.le_refl _⟩ rfl dX7_readLine_3 (fun H locs hW hS => ?_)
  refine lv_aload_n hx hb dX7_readLine_6 rfl (lv_at hl 0 rfl) ?_
  refine gtX7_30 hx hb hts hown hK hW cz7 dX7_readLine_7 ?_
  refine lv_if_ge (tgt := 47) hx hb dX7_readLine_10 (by decide) (fun c3 => ?_) (fun c3 => ?_)
  · replace h := sh_t c3 h
    refine lv_aload_n hx hb dX7_readLine_47 rfl (lv_at hl 0 rfl) ?_
    refine gtX7_12 hx hb hts hown hK hW cz7 dX7_readLine_48 ?_
    refine lv_bipush (v := (-59 : Int32)) hx hb dX7_readLine_51 (by decide) ?_
    replace h := bE_a h
    obtain ⟨u4, M5, hcu4, h⟩ := h
    refine tb_cVV hZk hx hb hml hown hts hK hZ hW hS [.int (-59 : Int32)] (mX10_add (l := l) hZk 2 (-59 : Int32) M2 cz10_2 u4 M5 hcu4) pmX10_add tw956 (Wd.recv hK hW (t := 10) (by decide) cz10_2 (C := RX10) (T := TX10) (N := 2) rfl) ⟨Nat.le_of_ble_eq_true rfl, Nat.le_of_ble_eq_true rfl⟩ rfl hl.1 (Nat.le_of_ble_eq_true rfl) ⟨Nat.le_refl _, Nat.le_refl _⟩ rfl dX7_readLine_53 (fun H locs hW hS => ?_)
    exact tb_vretE h hx hb hr hS hW hlk dX7_readLine_56
  · replace h := sh_f c3 h
    refine lv_aload_n hx hb dX7_readLine_13 rfl (lv_at hl 0 rfl) ?_
    refine va_ldcS hx hb hown (zs9 hZ) dX7_readLine_14 ?_
    replace h := bd_a h
    obtain ⟨b6, hcb6, h⟩ := h
    refine tb_cVZ hZk hx hb hml hown hts hK hZ hW hS [.ref (K.1 9)] (mX7_sees (l := l) hZk 9 M2 (by decide) b6 hcb6) pmX7_sees tw947 (Wd.recv hK hW (t := 7) (by decide) cz7 (C := RX7) (T := TX7) (N := 5) rfl) ⟨Nat.le_of_ble_eq_true rfl, Nat.le_of_ble_eq_true rfl⟩ rfl hl.1 (Nat.le_of_ble_eq_true rfl) ⟨Nat.le_refl _, Nat.le_refl _⟩ rfl dX7_readLine_16 (fun H locs hW hS hzz => ?_)
    have hzb6 := hzz
    refine lv_if_eq (tgt := 47) hx hb dX7_readLine_19 (by decide) (fun c7 => ?_) (fun c7 => ?_)
    · replace h := sh_t c7 h
      refine lv_aload_n hx hb dX7_readLine_47 rfl (lv_at hl 0 rfl) ?_
      refine gtX7_12 hx hb hts hown hK hW cz7 dX7_readLine_48 ?_
      refine lv_bipush (v := (-59 : Int32)) hx hb dX7_readLine_51 (by decide) ?_
      replace h := bE_a h
      obtain ⟨u8, M9, hcu8, h⟩ := h
      refine tb_cVV hZk hx hb hml hown hts hK hZ hW hS [.int (-59 : Int32)] (mX10_add (l := l) hZk 2 (-59 : Int32) M2 cz10_2 u8 M9 hcu8) pmX10_add tw956 (Wd.recv hK hW (t := 10) (by decide) cz10_2 (C := RX10) (T := TX10) (N := 2) rfl) ⟨Nat.le_of_ble_eq_true rfl, Nat.le_of_ble_eq_true rfl⟩ rfl hl.1 (Nat.le_of_ble_eq_true rfl) ⟨Nat.le_refl _, Nat.le_refl _⟩ rfl dX7_readLine_53 (fun H locs hW hS => ?_)
      exact tb_vretE h hx hb hr hS hW hlk dX7_readLine_56
    · replace h := sh_f c7 h
      refine lv_aload_n hx hb dX7_readLine_22 rfl (lv_at hl 0 rfl) ?_
      refine lv_dup hx hb dX7_readLine_23 rfl ?_
      refine gtX7_27 hx hb hts hown hK hW cz7 dX7_readLine_24 ?_
      refine lv_iconst (v := (1 : Int32)) hx hb dX7_readLine_27 (by decide) ?_
      refine lv_iadd hx hb dX7_readLine_28 ?_
      refine lv_topi (fun v10 ev10 => ?_)
      replace h := nm_a ev10 h
      refine ptX7_27 hx hb hts hown hK hW hS cz7 dX7_readLine_29 (fun H locs hW hS => ?_)
      obtain ⟨M11, eM11⟩ : ∃ y, y = msI M2 703 0 0 v10 := ⟨_, rfl⟩
      replace h := nm_a eM11 h
      rw [← eM11] at hW
      refine lv_aload_n hx hb dX7_readLine_32 rfl (lv_at hl 0 rfl) ?_
      refine gtX7_12 hx hb hts hown hK hW cz7 dX7_readLine_33 ?_
      refine lv_bipush (v := (-63 : Int32)) hx hb dX7_readLine_36 (by decide) ?_
      replace h := bE_a h
      obtain ⟨u12, M13, hcu12, h⟩ := h
      refine tb_cVV hZk hx hb hml hown hts hK hZ hW hS [.int (-63 : Int32)] (mX10_add (l := l) hZk 2 (-63 : Int32) M11 cz10_2 u12 M13 hcu12) pmX10_add tw956 (Wd.recv hK hW (t := 10) (by decide) cz10_2 (C := RX10) (T := TX10) (N := 2) rfl) ⟨Nat.le_of_ble_eq_true rfl, Nat.le_of_ble_eq_true rfl⟩ rfl hl.1 (Nat.le_of_ble_eq_true rfl) ⟨Nat.le_refl _, Nat.le_refl _⟩ rfl dX7_readLine_38 (fun H locs hW hS => ?_)
      refine lv_aload_n hx hb dX7_readLine_41 rfl (lv_at hl 0 rfl) ?_
      refine lv_iconst (v := (0 : Int32)) hx hb dX7_readLine_42 (by decide) ?_
      refine lv_iconst (v := (0 : Int32)) hx hb dX7_readLine_43 (by decide) ?_
      replace h := bE_a h
      obtain ⟨u14, M15, hcu14, h⟩ := h
      refine tb_cVV hZk hx hb hml hown hts hK hZ hW hS [.int (0 : Int32), .int (0 : Int32)] (mX7_readPartT (l := l) hZk (0 : Int32) (0 : Int32) M13 u14 M15 hcu14) pmX7_readPart tw938 (Wd.recv hK hW (t := 7) (by decide) cz7 (C := RX7) (T := TX7) (N := 5) rfl) ⟨Nat.le_of_ble_eq_true rfl, Nat.le_of_ble_eq_true rfl⟩ rfl hl.1 (Nat.le_of_ble_eq_true rfl) ⟨Nat.le_refl _, Nat.le_refl _⟩ rfl dX7_readLine_44 (fun H locs hW hS => ?_)
      refine lv_aload_n hx hb dX7_readLine_47 rfl (lv_at hl 0 rfl) ?_
      refine gtX7_12 hx hb hts hown hK hW cz7 dX7_readLine_48 ?_
      refine lv_bipush (v := (-59 : Int32)) hx hb dX7_readLine_51 (by decide) ?_
      replace h := bE_a h
      obtain ⟨u16, M17, hcu16, h⟩ := h
      refine tb_cVV hZk hx hb hml hown hts hK hZ hW hS [.int (-59 : Int32)] (mX10_add (l := l) hZk 2 (-59 : Int32) M15 cz10_2 u16 M17 hcu16) pmX10_add tw956 (Wd.recv hK hW (t := 10) (by decide) cz10_2 (C := RX10) (T := TX10) (N := 2) rfl) ⟨Nat.le_of_ble_eq_true rfl, Nat.le_of_ble_eq_true rfl⟩ rfl hl.1 (Nat.le_of_ble_eq_true rfl) ⟨Nat.le_refl _, Nat.le_refl _⟩ rfl dX7_readLine_53 (fun H locs hW hS => ?_)
      exact tb_vretE h hx hb hr hS hW hlk dX7_readLine_56
def fX7_read_b20 (k4 : Int32 → Mem → Option (Int32 × Mem)) (i5 : Int32) (M6 : Mem) : Option (Int32 × Mem) :=
  if (120 : Int32) < i5 then (some (mgI M6 703 0 0, M6)) else (bE (fX7_readLine M6) fun u8 M9 => if 0 ≤ (mgI M9 704 0 0) then (some (mgI M9 704 0 0, M9)) else (if (mgI M9 703 0 0) < (mgI M9 701 0 0) then (bd (fX7_sees 10 M9) fun b12 => if b12 = 0 then (some (mgI M9 703 0 0, M9)) else (nm ((mgI M9 703 0 0) + (1 : Int32)) fun v14 => nm (msI M9 703 0 0 v14) fun M15 => nm (i5 + (1 : Int32)) fun v16 => k4 v16 M15)) else (some (mgI M9 704 0 0, M9))))
def fX7_read_l20 : Nat → Int32 → Mem → Option (Int32 × Mem)
  | 0, _, _ => none
  | n + 1, i5, M6 => fX7_read_b20 (fX7_read_l20 n) i5 M6
def fX7_read (M0 : Mem) : Option (Int32 × Mem) :=
  nm (msI M0 1001 2 0 (0 : Int32)) fun M1 => nm (msI M1 703 0 0 (0 : Int32)) fun M2 => nm (msI M2 704 0 0 (-1 : Int32)) fun M3 => fX7_read_l20 FU (0 : Int32) M3
set_option maxHeartbeats 4000000 in
set_option maxRecDepth 100000 in
theorem mX7_read {l : Launch} {D : va_G} {cy : Nat → ClassId} {A : Nat → Prop} {K : KC} {nS nL : Nat} {ad : Nat → Nat → Nat} (hZk : ZOK A (ZC A K)) (M0 : Mem) (r : Int32) (M' : Mem) (h : fX7_read M0 = some (r, M')) : Met l yX7_read (wt yX7_read cX7_read 2 (some .int)) (rm 386 9581) (CPre D cy A (ZC A K) (cnC nS nL) ad M0 [.ref (ad 7 0)]) (QI D cy A (cnC nS nL) ad r M') 0 0 A := by
  refine tb_start [.ref (ad 7 0)] [(0, .ref (ad 7 0))] RX7 rfl (by decide +kernel) (Nat.le_of_ble_eq_true rfl) rfl (fun p e s m args below meth c hx hb hr hml hown hts hlk hW hK hZ ls hl => ?_)
  have hS : va_S A s.heap s.heap [] := va_S.rf
  unfold fX7_read at h
  refine lv_aload_n hx hb dX7_read_0 rfl (lv_at hl 0 rfl) ?_
  refine gtX7_12 hx hb hts hown hK hW cz7 dX7_read_1 ?_
  refine lv_iconst (v := (0 : Int32)) hx hb dX7_read_4 (by decide) ?_
  refine ptX7_26 hx hb hts hown hK hW hS cz10_2 dX7_read_5 (fun H locs hW hS => ?_)
  obtain ⟨M1, eM1⟩ : ∃ y, y = msI M0 1001 2 0 (0 : Int32) := ⟨_, rfl⟩
  replace h := nm_a eM1 h
  rw [← eM1] at hW
  refine lv_aload_n hx hb dX7_read_8 rfl (lv_at hl 0 rfl) ?_
  refine lv_iconst (v := (0 : Int32)) hx hb dX7_read_9 (by decide) ?_
  refine ptX7_27 hx hb hts hown hK hW hS cz7 dX7_read_10 (fun H locs hW hS => ?_)
  obtain ⟨M2, eM2⟩ : ∃ y, y = msI M1 703 0 0 (0 : Int32) := ⟨_, rfl⟩
  replace h := nm_a eM2 h
  rw [← eM2] at hW
  refine lv_aload_n hx hb dX7_read_13 rfl (lv_at hl 0 rfl) ?_
  refine lv_iconst (v := (-1 : Int32)) hx hb dX7_read_14 (by decide) ?_
  refine ptX7_30 hx hb hts hown hK hW hS cz7 dX7_read_15 (fun H locs hW hS => ?_)
  obtain ⟨M3, eM3⟩ : ∃ y, y = msI M2 704 0 0 (-1 : Int32) := ⟨_, rfl⟩
  replace h := nm_a eM3 h
  rw [← eM3] at hW
  refine lv_iconst (v := (0 : Int32)) hx hb dX7_read_18 (by decide) ?_
  refine lv_istore_n (lv' := [(1, .int (0 : Int32)), (0, .ref (ad 7 0))]) hx hb dX7_read_19 rfl hl (by decide) rfl (fun ls hl => ?_)
  have L4 : ∀ (n4 : Nat) (i5 : Int32) (M6 : Mem) (H : Heap) (locs : List Loc) (ls : Array Slot), Wd D cy A (cnC nS nL) ad M6 H → va_S A s.heap H locs → lv_has ls 2 [(0, .ref (ad 7 0)), (1, .int i5)] → fX7_read_l20 n4 i5 M6 = some (r, M') → W p l e (rm 386 9581) s m args below meth c H locs 0 0 (MQ below (QI D cy A (cnC nS nL) ad r M') args s 0 0 A) (F0 m 20 ls []) := by
    intro n4
    induction n4 with
    | zero => intro i5 M6 H locs ls hW hS hl h; cases h
    | succ n4 ih4 =>
      intro i5 M6 H locs ls hW hS hl h
      unfold fX7_read_l20 fX7_read_b20 at h
      refine lv_iload_n hx hb dX7_read_20 rfl (lv_at hl 1 rfl) ?_
      refine lv_bipush (v := (120 : Int32)) hx hb dX7_read_21 (by decide) ?_
      refine lv_icmp_gt (tgt := 83) hx hb dX7_read_23 (by decide) (fun c7 => ?_) (fun c7 => ?_)
      · replace h := sh_t c7 h
        refine lv_aload_n hx hb dX7_read_83 rfl (lv_at hl 0 rfl) ?_
        refine gtX7_27 hx hb hts hown hK hW cz7 dX7_read_84 ?_
        exact tb_iretE h hx hb hr hS hW hlk dX7_read_87
      · replace h := sh_f c7 h
        refine lv_aload_n hx hb dX7_read_26 rfl (lv_at hl 0 rfl) ?_
        replace h := bE_a h
        obtain ⟨u8, M9, hcu8, h⟩ := h
        refine tb_cVV hZk hx hb hml hown hts hK hZ hW hS [] (mX7_readLine (l := l) hZk M6 u8 M9 hcu8) pmX7_readLine tw934 (Wd.recv hK hW (t := 7) (by decide) cz7 (C := RX7) (T := TX7) (N := 5) rfl) ⟨Nat.le_of_ble_eq_true rfl, Nat.le_of_ble_eq_true rfl⟩ rfl hl.1 (Nat.le_of_ble_eq_true rfl) ⟨Nat.le_refl _, Nat.le_refl _⟩ rfl dX7_read_27 (fun H locs hW hS => ?_)
        refine lv_aload_n hx hb dX7_read_30 rfl (lv_at hl 0 rfl) ?_
        refine gtX7_30 hx hb hts hown hK hW cz7 dX7_read_31 ?_
        refine lv_if_ge (tgt := 48) hx hb dX7_read_34 (by decide) (fun c10 => ?_) (fun c10 => ?_)
        · replace h := sh_t c10 h
          refine lv_aload_n hx hb dX7_read_48 rfl (lv_at hl 0 rfl) ?_
          refine gtX7_30 hx hb hts hown hK hW cz7 dX7_read_49 ?_
          exact tb_iretE h hx hb hr hS hW hlk dX7_read_52
        · replace h := sh_f c10 h
          refine lv_aload_n hx hb dX7_read_37 rfl (lv_at hl 0 rfl) ?_
          refine gtX7_27 hx hb hts hown hK hW cz7 dX7_read_38 ?_
          refine lv_aload_n hx hb dX7_read_41 rfl (lv_at hl 0 rfl) ?_
          refine gtX7_22 hx hb hts hown hK hW cz7 dX7_read_42 ?_
          refine lv_icmp_lt (tgt := 53) hx hb dX7_read_45 (by decide) (fun c11 => ?_) (fun c11 => ?_)
          · replace h := sh_t c11 h
            refine lv_aload_n hx hb dX7_read_53 rfl (lv_at hl 0 rfl) ?_
            refine va_ldcS hx hb hown (zs10 hZ) dX7_read_54 ?_
            replace h := bd_a h
            obtain ⟨b12, hcb12, h⟩ := h
            refine tb_cVZ hZk hx hb hml hown hts hK hZ hW hS [.ref (K.1 10)] (mX7_sees (l := l) hZk 10 M9 (by decide) b12 hcb12) pmX7_sees tw947 (Wd.recv hK hW (t := 7) (by decide) cz7 (C := RX7) (T := TX7) (N := 5) rfl) ⟨Nat.le_of_ble_eq_true rfl, Nat.le_of_ble_eq_true rfl⟩ rfl hl.1 (Nat.le_of_ble_eq_true rfl) ⟨Nat.le_refl _, Nat.le_refl _⟩ rfl dX7_read_56 (fun H locs hW hS hzz => ?_)
            have hzb12 := hzz
            refine lv_if_ne (tgt := 67) hx hb dX7_read_59 (by decide) (fun c13 => ?_) (fun c13 => ?_)
            · replace h := sh_f c13 h
              refine lv_aload_n hx hb dX7_read_67 rfl (lv_at hl 0 rfl) ?_
              refine lv_dup hx hb dX7_read_68 rfl ?_
              refine gtX7_27 hx hb hts hown hK hW cz7 dX7_read_69 ?_
              refine lv_iconst (v := (1 : Int32)) hx hb dX7_read_72 (by decide) ?_
              refine lv_iadd hx hb dX7_read_73 ?_
              refine lv_topi (fun v14 ev14 => ?_)
              replace h := nm_a ev14 h
              refine ptX7_27 hx hb hts hown hK hW hS cz7 dX7_read_74 (fun H locs hW hS => ?_)
              obtain ⟨M15, eM15⟩ : ∃ y, y = msI M9 703 0 0 v14 := ⟨_, rfl⟩
              replace h := nm_a eM15 h
              rw [← eM15] at hW
              obtain ⟨v16, ev16⟩ : ∃ y : Int32, y = i5 + (1 : Int32) := ⟨_, rfl⟩
              replace h := nm_a ev16 h
              refine lv_iinc (v := v16) (lv' := [(1, .int v16), (0, .ref (ad 7 0))]) hx hb dX7_read_77 hl (k := 1) rfl (by rw [ev16]; rfl) (by decide) rfl (fun ls hl => ?_)
              refine lv_goto (tgt := 20) hx hb dX7_read_80 (by decide) ?_
              exact ih4 v16 M15 _ _ _ hW hS (lv_sub hl [1, 0] rfl) h
            · replace h := sh_t c13 h
              refine lv_aload_n hx hb dX7_read_62 rfl (lv_at hl 0 rfl) ?_
              refine gtX7_27 hx hb hts hown hK hW cz7 dX7_read_63 ?_
              exact tb_iretE h hx hb hr hS hW hlk dX7_read_66
          · replace h := sh_f c11 h
            refine lv_aload_n hx hb dX7_read_48 rfl (lv_at hl 0 rfl) ?_
            refine gtX7_30 hx hb hts hown hK hW cz7 dX7_read_49 ?_
            exact tb_iretE h hx hb hr hS hW hlk dX7_read_52
  exact L4 FU (0 : Int32) M3 _ _ _ hW hS (lv_sub hl [1, 0] rfl) h
def fX11_text (x1 : Int32) (M0 : Mem) : Option (Int32 × Mem) :=
  if x1 < 0 then (some ((-1 : Int32), M0)) else (if x1 ≤ (1 : Int32) then (bE (fX7_read M0) fun b3 M4 => nm (msI M4 701 0 0 (0 : Int32)) fun M5 => if b3 < 0 then (if x1 = 0 then (bE (fX10_become 0 (some 2) M5) fun u10 M11 => some ((1 : Int32), M11)) else (bE (fX10_become 1 (some 2) M5) fun u8 M9 => some ((1 : Int32), M9))) else (some ((-100 : Int32) - b3, M5))) else (some ((-1 : Int32), M0)))
set_option maxHeartbeats 4000000 in
set_option maxRecDepth 100000 in
theorem mX11_text {l : Launch} {D : va_G} {cy : Nat → ClassId} {A : Nat → Prop} {K : KC} {nS nL : Nat} {ad : Nat → Nat → Nat} (hZk : ZOK A (ZC A K)) (x1 : Int32) (M0 : Mem) (r : Int32) (M' : Mem) (h : fX11_text x1 M0 = some (r, M')) : Met l yX11_text (wt yX11_text cX11_text 4 (some .int)) (rm 387 9602) (CPre D cy A (ZC A K) (cnC nS nL) ad M0 [.ref (ad 11 0), .int x1]) (QI D cy A (cnC nS nL) ad r M') 0 0 A := by
  refine tb_start [.ref (ad 11 0), .int x1] [(0, .ref (ad 11 0)), (1, .int x1)] RX11 rfl (by decide +kernel) (Nat.le_of_ble_eq_true rfl) rfl (fun p e s m args below meth c hx hb hr hml hown hts hlk hW hK hZ ls hl => ?_)
  have hS : va_S A s.heap s.heap [] := va_S.rf
  unfold fX11_text at h
  refine lv_iload_n hx hb dX11_text_0 rfl (lv_at hl 1 rfl) ?_
  refine lv_if_lt (tgt := 9) hx hb dX11_text_1 (by decide) (fun c1 => ?_) (fun c1 => ?_)
  · replace h := sh_t c1 h
    refine lv_iconst (v := (-1 : Int32)) hx hb dX11_text_9 (by decide) ?_
    exact tb_iretE h hx hb hr hS hW hlk dX11_text_10
  · replace h := sh_f c1 h
    refine lv_iload_n hx hb dX11_text_4 rfl (lv_at hl 1 rfl) ?_
    refine lv_iconst (v := (1 : Int32)) hx hb dX11_text_5 (by decide) ?_
    refine lv_icmp_le (tgt := 11) hx hb dX11_text_6 (by decide) (fun c2 => ?_) (fun c2 => ?_)
    · replace h := sh_t c2 h
      refine lv_aload_n hx hb dX11_text_11 rfl (lv_at hl 0 rfl) ?_
      refine gtX11_44 hx hb hts hown hK hW cz11 dX11_text_12 ?_
      replace h := bE_a h
      obtain ⟨b3, M4, hcb3, h⟩ := h
      refine tb_cVI hZk hx hb hml hown hts hK hZ hW hS [] (mX7_read (l := l) hZk M0 b3 M4 hcb3) pmX7_read tw930 (Wd.recv hK hW (t := 7) (by decide) cz7 (C := RX7) (T := TX7) (N := 5) rfl) ⟨Nat.le_of_ble_eq_true rfl, Nat.le_of_ble_eq_true rfl⟩ rfl hl.1 (Nat.le_of_ble_eq_true rfl) ⟨Nat.le_refl _, Nat.le_refl _⟩ rfl dX11_text_15 (fun H locs hW hS => ?_)
      refine lv_istore_n (lv' := [(2, .int b3), (0, .ref (ad 11 0)), (1, .int x1)]) hx hb dX11_text_18 rfl hl (by decide) rfl (fun ls hl => ?_)
      refine lv_aload_n hx hb dX11_text_19 rfl (lv_at hl 1 rfl) ?_
      refine gtX11_44 hx hb hts hown hK hW cz11 dX11_text_20 ?_
      refine lv_iconst (v := (0 : Int32)) hx hb dX11_text_23 (by decide) ?_
      refine ptX11_251 hx hb hts hown hK hW hS cz7 dX11_text_24 (fun H locs hW hS => ?_)
      obtain ⟨M5, eM5⟩ : ∃ y, y = msI M4 701 0 0 (0 : Int32) := ⟨_, rfl⟩
      replace h := nm_a eM5 h
      rw [← eM5] at hW
      refine lv_iload_n hx hb dX11_text_27 rfl (lv_at hl 0 rfl) ?_
      refine lv_if_lt (tgt := 36) hx hb dX11_text_28 (by decide) (fun c6 => ?_) (fun c6 => ?_)
      · replace h := sh_t c6 h
        refine lv_iload_n hx hb dX11_text_36 rfl (lv_at hl 2 rfl) ?_
        refine lv_if_ne (tgt := 50) hx hb dX11_text_37 (by decide) (fun c7 => ?_) (fun c7 => ?_)
        · replace h := sh_f c7 h
          refine lv_aload_n hx hb dX11_text_50 rfl (lv_at hl 1 rfl) ?_
          refine gtX11_37 hx hb hts hown hK hW cz11 dX11_text_51 ?_
          refine gtX11_258 hx hb hts hown hK hW cz3 dX11_text_54 ?_
          refine lv_astore_n (lv' := [(3, .ref (ad 10 1)), (2, .int b3), (0, .ref (ad 11 0)), (1, .int x1)]) hx hb dX11_text_57 rfl hl (by decide) rfl (fun ls hl => ?_)
          refine lv_aload_n hx hb dX11_text_58 rfl (lv_at hl 0 rfl) ?_
          refine lv_aload_n hx hb dX11_text_59 rfl (lv_at hl 2 rfl) ?_
          refine gtX11_44 hx hb hts hown hK hW cz11 dX11_text_60 ?_
          refine gtX11_261 hx hb hts hown hK hW cz7 dX11_text_63 ?_
          replace h := bE_a h
          obtain ⟨u8, M9, hcu8, h⟩ := h
          refine tb_cVV hZk hx hb hml hown hts hK hZ hW hS [.ref (ad 10 2)] (mX10_become (l := l) hZk 1 (some 2) M5 cz10_1 (fun z hz => Option.some.inj hz ▸ cz10_2) u8 M9 hcu8) pmX10_become tw977 (Wd.recv hK hW (t := 10) (by decide) cz10_1 (C := RX10) (T := TX10) (N := 2) rfl) ⟨Nat.le_of_ble_eq_true rfl, Nat.le_of_ble_eq_true rfl⟩ rfl hl.1 (Nat.le_of_ble_eq_true rfl) ⟨Nat.le_refl _, Nat.le_refl _⟩ rfl dX11_text_66 (fun H locs hW hS => ?_)
          refine lv_iconst (v := (1 : Int32)) hx hb dX11_text_69 (by decide) ?_
          exact tb_iretE h hx hb hr hS hW hlk dX11_text_70
        · replace h := sh_t c7 h
          refine lv_aload_n hx hb dX11_text_40 rfl (lv_at hl 1 rfl) ?_
          refine gtX11_37 hx hb hts hown hK hW cz11 dX11_text_41 ?_
          refine gtX11_254 hx hb hts hown hK hW cz3 dX11_text_44 ?_
          refine lv_goto (tgt := 57) hx hb dX11_text_47 (by decide) ?_
          refine lv_astore_n (lv' := [(3, .ref (ad 10 0)), (2, .int b3), (0, .ref (ad 11 0)), (1, .int x1)]) hx hb dX11_text_57 rfl hl (by decide) rfl (fun ls hl => ?_)
          refine lv_aload_n hx hb dX11_text_58 rfl (lv_at hl 0 rfl) ?_
          refine lv_aload_n hx hb dX11_text_59 rfl (lv_at hl 2 rfl) ?_
          refine gtX11_44 hx hb hts hown hK hW cz11 dX11_text_60 ?_
          refine gtX11_261 hx hb hts hown hK hW cz7 dX11_text_63 ?_
          replace h := bE_a h
          obtain ⟨u10, M11, hcu10, h⟩ := h
          refine tb_cVV hZk hx hb hml hown hts hK hZ hW hS [.ref (ad 10 2)] (mX10_become (l := l) hZk 0 (some 2) M5 cz10 (fun z hz => Option.some.inj hz ▸ cz10_2) u10 M11 hcu10) pmX10_become tw977 (Wd.recv hK hW (t := 10) (by decide) cz10 (C := RX10) (T := TX10) (N := 2) rfl) ⟨Nat.le_of_ble_eq_true rfl, Nat.le_of_ble_eq_true rfl⟩ rfl hl.1 (Nat.le_of_ble_eq_true rfl) ⟨Nat.le_refl _, Nat.le_refl _⟩ rfl dX11_text_66 (fun H locs hW hS => ?_)
          refine lv_iconst (v := (1 : Int32)) hx hb dX11_text_69 (by decide) ?_
          exact tb_iretE h hx hb hr hS hW hlk dX11_text_70
      · replace h := sh_f c6 h
        refine lv_bipush (v := (-100 : Int32)) hx hb dX11_text_31 (by decide) ?_
        refine lv_iload_n hx hb dX11_text_33 rfl (lv_at hl 0 rfl) ?_
        refine lv_isub hx hb dX11_text_34 ?_
        exact tb_iretE h hx hb hr hS hW hlk dX11_text_35
    · replace h := sh_f c2 h
      refine lv_iconst (v := (-1 : Int32)) hx hb dX11_text_9 (by decide) ?_
      exact tb_iretE h hx hb hr hS hW hlk dX11_text_10
def fX0_run (rr : Int32 → Int32 → Int32 → Int32 → Mem → Option (Int32 × Mem)) (x1 : Int32) (x2 : Int32) (x3 : Int32) (x4 : Int32) (M0 : Mem) : Option (Int32 × Mem) :=
  bd (fX0_bodyFrom x1 x2 M0) fun b1 => nm (x4 + (1 : Int32)) fun v2 => if v2 ≤ (24 : Int32) then (bE (fX0_begin b1 M0) fun u4 M5 => if b1 = (1 : Int32) then (some (x3 + (mgI M5 3 0 0), M5)) else if b1 = (2 : Int32) then (bE (rr (1 : Int32) (mgI M5 2 0 0) x3 v2 M5) fun b8 M9 => bE (rr (2 : Int32) (mgI M9 2 0 0) (1 : Int32) v2 M9) fun b10 M11 => some (b8 - b10, M11)) else if b1 = (10 : Int32) then (bE (rr (0 : Int32) (mgI M5 2 0 0) x3 v2 M5) fun b13 M14 => some (b13 * (2 : Int32), M14)) else if b1 = (11 : Int32) then (some (x3 ^^^ (mgI M5 3 0 0), M5)) else if b1 = (20 : Int32) then (ix (1 : Int32) 7 <| bE (rr (1 : Int32) (tAb (1 : Int32).toNatClampNeg) x3 v2 M5) fun b17 M18 => some (b17 + (3 : Int32), M18)) else if b1 = (30 : Int32) then (ix (2 : Int32) 7 <| bE (rr (0 : Int32) (tAb (2 : Int32).toNatClampNeg) x3 v2 M5) fun b20 M21 => some (b20 + (mgI M21 4 0 0), M21)) else if b1 = (40 : Int32) then (ix (3 : Int32) 7 <| bE (rr (2 : Int32) (tAb (3 : Int32).toNatClampNeg) x3 v2 M5) fun b23 M24 => some (b23 * (3 : Int32), M24)) else if b1 = (41 : Int32) then (ix (3 : Int32) 7 <| bE (rr (3 : Int32) (tAb (3 : Int32).toNatClampNeg) x3 v2 M5) fun b26 M27 => some (b26 ^^^ (5 : Int32), M27)) else if b1 = (50 : Int32) then (ix (4 : Int32) 7 <| bE (rr (1 : Int32) (tAb (4 : Int32).toNatClampNeg) x3 v2 M5) fun b29 M30 => some (-b29, M30)) else if b1 = (60 : Int32) then (ix (5 : Int32) 7 <| bE (rr (2 : Int32) (tAb (5 : Int32).toNatClampNeg) x3 v2 M5) fun b32 M33 => bE (rr (0 : Int32) (mgI M33 2 0 0) (2 : Int32) v2 M33) fun b34 M35 => some (b32 - b34, M35)) else if b1 = (70 : Int32) then (ix (6 : Int32) 7 <| bE (rr (0 : Int32) (tAb (6 : Int32).toNatClampNeg) (x3 + (1 : Int32)) v2 M5) fun b37 M38 => some (b37, M38)) else if b1 = (71 : Int32) then (ix (6 : Int32) 7 <| bE (rr (2 : Int32) (tAb (6 : Int32).toNatClampNeg) x3 v2 M5) fun b40 M41 => some (b40 * (2 : Int32), M41)) else some ((0 : Int32), M5)) else (some ((0 : Int32), M0))
set_option maxHeartbeats 4000000 in
set_option maxRecDepth 100000 in
theorem mX0_run {l : Launch} {D : va_G} {cy : Nat → ClassId} {A : Nat → Prop} {K : KC} {nS nL : Nat} {ad : Nat → Nat → Nat} (hZk : ZOK A (ZC A K)) (rr : Int32 → Int32 → Int32 → Int32 → Mem → Option (Int32 × Mem)) (x1 : Int32) (x2 : Int32) (x3 : Int32) (x4 : Int32) (M0 : Mem) (F L : Nat) (hrr0 : ∀ (x1 x2 x3 x4 : Int32) (M0 : Mem) (r : Int32) (M' : Mem), rr x1 x2 x3 x4 M0 = some (r, M') → Met l yX0_run (wt yX0_run cX0_run 7 (some .int)) (rm (F) (L)) (CPre D cy A (ZC A K) (cnC nS nL) ad M0 [.ref (ad 0 0), .int x1, .int x2, .int x3, .int x4]) (QI D cy A (cnC nS nL) ad r M') 0 0 A) (r : Int32) (M' : Mem) (h : fX0_run rr x1 x2 x3 x4 M0 = some (r, M')) : Met l yX0_run (wt yX0_run cX0_run 7 (some .int)) (rm (F + 1) (L + 26)) (CPre D cy A (ZC A K) (cnC nS nL) ad M0 [.ref (ad 0 0), .int x1, .int x2, .int x3, .int x4]) (QI D cy A (cnC nS nL) ad r M') 0 0 A := by
  refine tb_start [.ref (ad 0 0), .int x1, .int x2, .int x3, .int x4] [(0, .ref (ad 0 0)), (1, .int x1), (2, .int x2), (3, .int x3), (4, .int x4)] RX0 rfl (by decide +kernel) (Nat.le_of_ble_eq_true rfl) rfl (fun p e s m args below meth c hx hb hr hml hown hts hlk hW hK hZ ls hl => ?_)
  have hS : va_S A s.heap s.heap [] := va_S.rf
  unfold fX0_run at h
  refine lv_iload_n hx hb dX0_run_0 rfl (lv_at hl 1 rfl) ?_
  refine lv_iload_n hx hb dX0_run_1 rfl (lv_at hl 2 rfl) ?_
  replace h := bd_a h
  obtain ⟨b1, hcb1, h⟩ := h
  refine tb_cSI hZk hx hb hml hown hts hK hZ hW hS [.int x1, .int x2] (mX0_bodyFrom (l := l) hZk x1 x2 M0 b1 hcb1) pmX0_bodyFrom tw1125 ⟨(show 0 + 1 ≤ F + 1 by omega), (show 8 + (4 + 11) + (0) ≤ L + 26 by omega)⟩ rfl hl.1 (Nat.le_of_ble_eq_true rfl) ⟨Nat.le_refl _, Nat.le_refl _⟩ rfl dX0_run_2 (fun H locs hW hS => ?_)
  refine lv_istore (lv' := [(5, .int b1), (0, .ref (ad 0 0)), (1, .int x1), (2, .int x2), (3, .int x3), (4, .int x4)]) hx hb dX0_run_5 hl (by decide) rfl (fun ls hl => ?_)
  refine lv_iload hx hb dX0_run_7 (lv_at hl 5 rfl) ?_
  refine lv_iconst (v := (1 : Int32)) hx hb dX0_run_9 (by decide) ?_
  refine lv_iadd hx hb dX0_run_10 ?_
  refine lv_topi (fun v2 ev2 => ?_)
  replace h := nm_a ev2 h
  refine lv_istore (lv' := [(6, .int v2), (5, .int b1), (0, .ref (ad 0 0)), (1, .int x1), (2, .int x2), (3, .int x3), (4, .int x4)]) hx hb dX0_run_11 hl (by decide) rfl (fun ls hl => ?_)
  refine lv_iload hx hb dX0_run_13 (lv_at hl 0 rfl) ?_
  refine lv_bipush (v := (24 : Int32)) hx hb dX0_run_15 (by decide) ?_
  refine lv_icmp_le (tgt := 22) hx hb dX0_run_17 (by decide) (fun c3 => ?_) (fun c3 => ?_)
  · replace h := sh_t c3 h
    refine lv_aload_n hx hb dX0_run_22 rfl (lv_at hl 2 rfl) ?_
    refine lv_iload hx hb dX0_run_23 (lv_at hl 1 rfl) ?_
    replace h := bE_a h
    obtain ⟨u4, M5, hcu4, h⟩ := h
    refine tb_cVV hZk hx hb hml hown hts hK hZ hW hS [.int b1] (mX0_begin (l := l) hZk b1 M0 u4 M5 hcu4) pmX0_begin tw1132 (Wd.recv hK hW (t := 0) (by decide) cz0 (C := RX0) (T := TX0) (N := 5) rfl) ⟨(show 0 + 1 ≤ F + 1 by omega), (show 8 + (2 + 11) + (0) ≤ L + 26 by omega)⟩ rfl hl.1 (Nat.le_of_ble_eq_true rfl) ⟨Nat.le_refl _, Nat.le_refl _⟩ rfl dX0_run_25 (fun H locs hW hS => ?_)
    refine lv_iload hx hb dX0_run_28 (lv_at hl 1 rfl) ?_
    by_cases c6 : b1 = (1 : Int32)
    · replace h := sh_t c6 h
      refine lv_lookup (off := 106) (tgt := 136) hx hb dX0_run_30 (by decide) (by rw [c6]; decide) (by decide) ?_
      refine lv_iload_n hx hb dX0_run_136 rfl (lv_at hl 5 rfl) ?_
      refine lv_aload_n hx hb dX0_run_137 rfl (lv_at hl 2 rfl) ?_
      refine gtX0_24 hx hb hts hown hK hW cz0 dX0_run_138 ?_
      refine lv_iadd hx hb dX0_run_141 ?_
      exact tb_iretE h hx hb hr hS hW hlk dX0_run_142
    · replace h := sh_f c6 h
      by_cases c7 : b1 = (2 : Int32)
      · replace h := sh_t c7 h
        refine lv_lookup (off := 113) (tgt := 143) hx hb dX0_run_30 (by decide) (by rw [c7]; decide) (by decide) ?_
        refine lv_aload_n hx hb dX0_run_143 rfl (lv_at hl 2 rfl) ?_
        refine lv_iconst (v := (1 : Int32)) hx hb dX0_run_144 (by decide) ?_
        refine lv_aload_n hx hb dX0_run_145 rfl (lv_at hl 2 rfl) ?_
        refine gtX0_15 hx hb hts hown hK hW cz0 dX0_run_146 ?_
        refine lv_iload_n hx hb dX0_run_149 rfl (lv_at hl 5 rfl) ?_
        refine lv_iload hx hb dX0_run_150 (lv_at hl 0 rfl) ?_
        replace h := bE_a h
        obtain ⟨b8, M9, hcb8, h⟩ := h
        refine tb_cVI hZk hx hb hml hown hts hK hZ hW hS [.int (1 : Int32), .int (mgI M5 2 0 0), .int x3, .int v2] (hrr0 (1 : Int32) (mgI M5 2 0 0) x3 v2 M5 b8 M9 hcb8) pmX0_run tw1121 (Wd.recv hK hW (t := 0) (by decide) cz0 (C := RX0) (T := TX0) (N := 5) rfl) ⟨(show F + 0 + 1 ≤ F + 1 by omega), (show 8 + (7 + 11) + (L + 0) ≤ L + 26 by omega)⟩ rfl hl.1 (Nat.le_of_ble_eq_true rfl) ⟨Nat.le_refl _, Nat.le_refl _⟩ rfl dX0_run_152 (fun H locs hW hS => ?_)
        refine lv_aload_n hx hb dX0_run_155 rfl (lv_at hl 2 rfl) ?_
        refine lv_iconst (v := (2 : Int32)) hx hb dX0_run_156 (by decide) ?_
        refine lv_aload_n hx hb dX0_run_157 rfl (lv_at hl 2 rfl) ?_
        refine gtX0_15 hx hb hts hown hK hW cz0 dX0_run_158 ?_
        refine lv_iconst (v := (1 : Int32)) hx hb dX0_run_161 (by decide) ?_
        refine lv_iload hx hb dX0_run_162 (lv_at hl 0 rfl) ?_
        replace h := bE_a h
        obtain ⟨b10, M11, hcb10, h⟩ := h
        refine tb_cVI hZk hx hb hml hown hts hK hZ hW hS [.int (2 : Int32), .int (mgI M9 2 0 0), .int (1 : Int32), .int v2] (hrr0 (2 : Int32) (mgI M9 2 0 0) (1 : Int32) v2 M9 b10 M11 hcb10) pmX0_run tw1121 (Wd.recv hK hW (t := 0) (by decide) cz0 (C := RX0) (T := TX0) (N := 5) rfl) ⟨(show F + 0 + 1 ≤ F + 1 by omega), (show 8 + (7 + 11) + (L + 0) ≤ L + 26 by omega)⟩ rfl hl.1 (Nat.le_of_ble_eq_true rfl) ⟨Nat.le_refl _, Nat.le_refl _⟩ rfl dX0_run_164 (fun H locs hW hS => ?_)
        refine lv_isub hx hb dX0_run_167 ?_
        exact tb_iretE h hx hb hr hS hW hlk dX0_run_168
      · replace h := sh_f c7 h
        by_cases c12 : b1 = (10 : Int32)
        · replace h := sh_t c12 h
          refine lv_lookup (off := 139) (tgt := 169) hx hb dX0_run_30 (by decide) (by rw [c12]; decide) (by decide) ?_
          refine lv_aload_n hx hb dX0_run_169 rfl (lv_at hl 2 rfl) ?_
          refine lv_iconst (v := (0 : Int32)) hx hb dX0_run_170 (by decide) ?_
          refine lv_aload_n hx hb dX0_run_171 rfl (lv_at hl 2 rfl) ?_
          refine gtX0_15 hx hb hts hown hK hW cz0 dX0_run_172 ?_
          refine lv_iload_n hx hb dX0_run_175 rfl (lv_at hl 5 rfl) ?_
          refine lv_iload hx hb dX0_run_176 (lv_at hl 0 rfl) ?_
          replace h := bE_a h
          obtain ⟨b13, M14, hcb13, h⟩ := h
          refine tb_cVI hZk hx hb hml hown hts hK hZ hW hS [.int (0 : Int32), .int (mgI M5 2 0 0), .int x3, .int v2] (hrr0 (0 : Int32) (mgI M5 2 0 0) x3 v2 M5 b13 M14 hcb13) pmX0_run tw1121 (Wd.recv hK hW (t := 0) (by decide) cz0 (C := RX0) (T := TX0) (N := 5) rfl) ⟨(show F + 0 + 1 ≤ F + 1 by omega), (show 8 + (7 + 11) + (L + 0) ≤ L + 26 by omega)⟩ rfl hl.1 (Nat.le_of_ble_eq_true rfl) ⟨Nat.le_refl _, Nat.le_refl _⟩ rfl dX0_run_178 (fun H locs hW hS => ?_)
          refine lv_iconst (v := (2 : Int32)) hx hb dX0_run_181 (by decide) ?_
          refine lv_imul hx hb dX0_run_182 ?_
          exact tb_iretE h hx hb hr hS hW hlk dX0_run_183
        · replace h := sh_f c12 h
          by_cases c15 : b1 = (11 : Int32)
          · replace h := sh_t c15 h
            refine lv_lookup (off := 154) (tgt := 184) hx hb dX0_run_30 (by decide) (by rw [c15]; decide) (by decide) ?_
            refine lv_iload_n hx hb dX0_run_184 rfl (lv_at hl 5 rfl) ?_
            refine lv_aload_n hx hb dX0_run_185 rfl (lv_at hl 2 rfl) ?_
            refine gtX0_24 hx hb hts hown hK hW cz0 dX0_run_186 ?_
            refine lv_ixor hx hb dX0_run_189 ?_
            exact tb_iretE h hx hb hr hS hW hlk dX0_run_190
          · replace h := sh_f c15 h
            by_cases c16 : b1 = (20 : Int32)
            · replace h := sh_t c16 h
              refine lv_lookup (off := 161) (tgt := 191) hx hb dX0_run_30 (by decide) (by rw [c16]; decide) (by decide) ?_
              refine lv_aload_n hx hb dX0_run_191 rfl (lv_at hl 2 rfl) ?_
              refine lv_iconst (v := (1 : Int32)) hx hb dX0_run_192 (by decide) ?_
              refine va_gets hx hb hZ.2.2.2.1.1 hS hown (hts _ tw1130) (fun _ h9 => h9) dX0_run_193 ?_
              refine lv_iconst (v := (1 : Int32)) hx hb dX0_run_196 (by decide) ?_
              replace h := ix_a h
              obtain ⟨hj, h⟩ := h
              refine tb_Tiald hx hb hZ.2.2.2.1.2 hS hj dX0_run_197 ?_
              refine lv_iload_n hx hb dX0_run_198 rfl (lv_at hl 5 rfl) ?_
              refine lv_iload hx hb dX0_run_199 (lv_at hl 0 rfl) ?_
              replace h := bE_a h
              obtain ⟨b17, M18, hcb17, h⟩ := h
              refine tb_cVI hZk hx hb hml hown hts hK hZ hW hS [.int (1 : Int32), .int (tAb (1 : Int32).toNatClampNeg), .int x3, .int v2] (hrr0 (1 : Int32) (tAb (1 : Int32).toNatClampNeg) x3 v2 M5 b17 M18 hcb17) pmX0_run tw1121 (Wd.recv hK hW (t := 0) (by decide) cz0 (C := RX0) (T := TX0) (N := 5) rfl) ⟨(show F + 0 + 1 ≤ F + 1 by omega), (show 8 + (7 + 11) + (L + 0) ≤ L + 26 by omega)⟩ rfl hl.1 (Nat.le_of_ble_eq_true rfl) ⟨Nat.le_refl _, Nat.le_refl _⟩ rfl dX0_run_201 (fun H locs hW hS => ?_)
              refine lv_iconst (v := (3 : Int32)) hx hb dX0_run_204 (by decide) ?_
              refine lv_iadd hx hb dX0_run_205 ?_
              exact tb_iretE h hx hb hr hS hW hlk dX0_run_206
            · replace h := sh_f c16 h
              by_cases c19 : b1 = (30 : Int32)
              · replace h := sh_t c19 h
                refine lv_lookup (off := 177) (tgt := 207) hx hb dX0_run_30 (by decide) (by rw [c19]; decide) (by decide) ?_
                refine lv_aload_n hx hb dX0_run_207 rfl (lv_at hl 2 rfl) ?_
                refine lv_iconst (v := (0 : Int32)) hx hb dX0_run_208 (by decide) ?_
                refine va_gets hx hb hZ.2.2.2.1.1 hS hown (hts _ tw1130) (fun _ h9 => h9) dX0_run_209 ?_
                refine lv_iconst (v := (2 : Int32)) hx hb dX0_run_212 (by decide) ?_
                replace h := ix_a h
                obtain ⟨hj, h⟩ := h
                refine tb_Tiald hx hb hZ.2.2.2.1.2 hS hj dX0_run_213 ?_
                refine lv_iload_n hx hb dX0_run_214 rfl (lv_at hl 5 rfl) ?_
                refine lv_iload hx hb dX0_run_215 (lv_at hl 0 rfl) ?_
                replace h := bE_a h
                obtain ⟨b20, M21, hcb20, h⟩ := h
                refine tb_cVI hZk hx hb hml hown hts hK hZ hW hS [.int (0 : Int32), .int (tAb (2 : Int32).toNatClampNeg), .int x3, .int v2] (hrr0 (0 : Int32) (tAb (2 : Int32).toNatClampNeg) x3 v2 M5 b20 M21 hcb20) pmX0_run tw1121 (Wd.recv hK hW (t := 0) (by decide) cz0 (C := RX0) (T := TX0) (N := 5) rfl) ⟨(show F + 0 + 1 ≤ F + 1 by omega), (show 8 + (7 + 11) + (L + 0) ≤ L + 26 by omega)⟩ rfl hl.1 (Nat.le_of_ble_eq_true rfl) ⟨Nat.le_refl _, Nat.le_refl _⟩ rfl dX0_run_217 (fun H locs hW hS => ?_)
                refine lv_aload_n hx hb dX0_run_220 rfl (lv_at hl 2 rfl) ?_
                refine gtX0_27 hx hb hts hown hK hW cz0 dX0_run_221 ?_
                refine lv_iadd hx hb dX0_run_224 ?_
                exact tb_iretE h hx hb hr hS hW hlk dX0_run_225
              · replace h := sh_f c19 h
                by_cases c22 : b1 = (40 : Int32)
                · replace h := sh_t c22 h
                  refine lv_lookup (off := 196) (tgt := 226) hx hb dX0_run_30 (by decide) (by rw [c22]; decide) (by decide) ?_
                  refine lv_aload_n hx hb dX0_run_226 rfl (lv_at hl 2 rfl) ?_
                  refine lv_iconst (v := (2 : Int32)) hx hb dX0_run_227 (by decide) ?_
                  refine va_gets hx hb hZ.2.2.2.1.1 hS hown (hts _ tw1130) (fun _ h9 => h9) dX0_run_228 ?_
                  refine lv_iconst (v := (3 : Int32)) hx hb dX0_run_231 (by decide) ?_
                  replace h := ix_a h
                  obtain ⟨hj, h⟩ := h
                  refine tb_Tiald hx hb hZ.2.2.2.1.2 hS hj dX0_run_232 ?_
                  refine lv_iload_n hx hb dX0_run_233 rfl (lv_at hl 5 rfl) ?_
                  refine lv_iload hx hb dX0_run_234 (lv_at hl 0 rfl) ?_
                  replace h := bE_a h
                  obtain ⟨b23, M24, hcb23, h⟩ := h
                  refine tb_cVI hZk hx hb hml hown hts hK hZ hW hS [.int (2 : Int32), .int (tAb (3 : Int32).toNatClampNeg), .int x3, .int v2] (hrr0 (2 : Int32) (tAb (3 : Int32).toNatClampNeg) x3 v2 M5 b23 M24 hcb23) pmX0_run tw1121 (Wd.recv hK hW (t := 0) (by decide) cz0 (C := RX0) (T := TX0) (N := 5) rfl) ⟨(show F + 0 + 1 ≤ F + 1 by omega), (show 8 + (7 + 11) + (L + 0) ≤ L + 26 by omega)⟩ rfl hl.1 (Nat.le_of_ble_eq_true rfl) ⟨Nat.le_refl _, Nat.le_refl _⟩ rfl dX0_run_236 (fun H locs hW hS => ?_)
                  refine lv_iconst (v := (3 : Int32)) hx hb dX0_run_239 (by decide) ?_
                  refine lv_imul hx hb dX0_run_240 ?_
                  exact tb_iretE h hx hb hr hS hW hlk dX0_run_241
                · replace h := sh_f c22 h
                  by_cases c25 : b1 = (41 : Int32)
                  · replace h := sh_t c25 h
                    refine lv_lookup (off := 212) (tgt := 242) hx hb dX0_run_30 (by decide) (by rw [c25]; decide) (by decide) ?_
                    refine lv_aload_n hx hb dX0_run_242 rfl (lv_at hl 2 rfl) ?_
                    refine lv_iconst (v := (3 : Int32)) hx hb dX0_run_243 (by decide) ?_
                    refine va_gets hx hb hZ.2.2.2.1.1 hS hown (hts _ tw1130) (fun _ h9 => h9) dX0_run_244 ?_
                    refine lv_iconst (v := (3 : Int32)) hx hb dX0_run_247 (by decide) ?_
                    replace h := ix_a h
                    obtain ⟨hj, h⟩ := h
                    refine tb_Tiald hx hb hZ.2.2.2.1.2 hS hj dX0_run_248 ?_
                    refine lv_iload_n hx hb dX0_run_249 rfl (lv_at hl 5 rfl) ?_
                    refine lv_iload hx hb dX0_run_250 (lv_at hl 0 rfl) ?_
                    replace h := bE_a h
                    obtain ⟨b26, M27, hcb26, h⟩ := h
                    refine tb_cVI hZk hx hb hml hown hts hK hZ hW hS [.int (3 : Int32), .int (tAb (3 : Int32).toNatClampNeg), .int x3, .int v2] (hrr0 (3 : Int32) (tAb (3 : Int32).toNatClampNeg) x3 v2 M5 b26 M27 hcb26) pmX0_run tw1121 (Wd.recv hK hW (t := 0) (by decide) cz0 (C := RX0) (T := TX0) (N := 5) rfl) ⟨(show F + 0 + 1 ≤ F + 1 by omega), (show 8 + (7 + 11) + (L + 0) ≤ L + 26 by omega)⟩ rfl hl.1 (Nat.le_of_ble_eq_true rfl) ⟨Nat.le_refl _, Nat.le_refl _⟩ rfl dX0_run_252 (fun H locs hW hS => ?_)
                    refine lv_iconst (v := (5 : Int32)) hx hb dX0_run_255 (by decide) ?_
                    refine lv_ixor hx hb dX0_run_256 ?_
                    exact tb_iretE h hx hb hr hS hW hlk dX0_run_257
                  · replace h := sh_f c25 h
                    by_cases c28 : b1 = (50 : Int32)
                    · replace h := sh_t c28 h
                      refine lv_lookup (off := 228) (tgt := 258) hx hb dX0_run_30 (by decide) (by rw [c28]; decide) (by decide) ?_
                      refine lv_aload_n hx hb dX0_run_258 rfl (lv_at hl 2 rfl) ?_
                      refine lv_iconst (v := (1 : Int32)) hx hb dX0_run_259 (by decide) ?_
                      refine va_gets hx hb hZ.2.2.2.1.1 hS hown (hts _ tw1130) (fun _ h9 => h9) dX0_run_260 ?_
                      refine lv_iconst (v := (4 : Int32)) hx hb dX0_run_263 (by decide) ?_
                      replace h := ix_a h
                      obtain ⟨hj, h⟩ := h
                      refine tb_Tiald hx hb hZ.2.2.2.1.2 hS hj dX0_run_264 ?_
                      refine lv_iload_n hx hb dX0_run_265 rfl (lv_at hl 5 rfl) ?_
                      refine lv_iload hx hb dX0_run_266 (lv_at hl 0 rfl) ?_
                      replace h := bE_a h
                      obtain ⟨b29, M30, hcb29, h⟩ := h
                      refine tb_cVI hZk hx hb hml hown hts hK hZ hW hS [.int (1 : Int32), .int (tAb (4 : Int32).toNatClampNeg), .int x3, .int v2] (hrr0 (1 : Int32) (tAb (4 : Int32).toNatClampNeg) x3 v2 M5 b29 M30 hcb29) pmX0_run tw1121 (Wd.recv hK hW (t := 0) (by decide) cz0 (C := RX0) (T := TX0) (N := 5) rfl) ⟨(show F + 0 + 1 ≤ F + 1 by omega), (show 8 + (7 + 11) + (L + 0) ≤ L + 26 by omega)⟩ rfl hl.1 (Nat.le_of_ble_eq_true rfl) ⟨Nat.le_refl _, Nat.le_refl _⟩ rfl dX0_run_268 (fun H locs hW hS => ?_)
                      refine lv_ineg hx hb dX0_run_271 ?_
                      exact tb_iretE h hx hb hr hS hW hlk dX0_run_272
                    · replace h := sh_f c28 h
                      by_cases c31 : b1 = (60 : Int32)
                      · replace h := sh_t c31 h
                        refine lv_lookup (off := 243) (tgt := 273) hx hb dX0_run_30 (by decide) (by rw [c31]; decide) (by decide) ?_
                        refine lv_aload_n hx hb dX0_run_273 rfl (lv_at hl 2 rfl) ?_
                        refine lv_iconst (v := (2 : Int32)) hx hb dX0_run_274 (by decide) ?_
                        refine va_gets hx hb hZ.2.2.2.1.1 hS hown (hts _ tw1130) (fun _ h9 => h9) dX0_run_275 ?_
                        refine lv_iconst (v := (5 : Int32)) hx hb dX0_run_278 (by decide) ?_
                        replace h := ix_a h
                        obtain ⟨hj, h⟩ := h
                        refine tb_Tiald hx hb hZ.2.2.2.1.2 hS hj dX0_run_279 ?_
                        refine lv_iload_n hx hb dX0_run_280 rfl (lv_at hl 5 rfl) ?_
                        refine lv_iload hx hb dX0_run_281 (lv_at hl 0 rfl) ?_
                        replace h := bE_a h
                        obtain ⟨b32, M33, hcb32, h⟩ := h
                        refine tb_cVI hZk hx hb hml hown hts hK hZ hW hS [.int (2 : Int32), .int (tAb (5 : Int32).toNatClampNeg), .int x3, .int v2] (hrr0 (2 : Int32) (tAb (5 : Int32).toNatClampNeg) x3 v2 M5 b32 M33 hcb32) pmX0_run tw1121 (Wd.recv hK hW (t := 0) (by decide) cz0 (C := RX0) (T := TX0) (N := 5) rfl) ⟨(show F + 0 + 1 ≤ F + 1 by omega), (show 8 + (7 + 11) + (L + 0) ≤ L + 26 by omega)⟩ rfl hl.1 (Nat.le_of_ble_eq_true rfl) ⟨Nat.le_refl _, Nat.le_refl _⟩ rfl dX0_run_283 (fun H locs hW hS => ?_)
                        refine lv_aload_n hx hb dX0_run_286 rfl (lv_at hl 2 rfl) ?_
                        refine lv_iconst (v := (0 : Int32)) hx hb dX0_run_287 (by decide) ?_
                        refine lv_aload_n hx hb dX0_run_288 rfl (lv_at hl 2 rfl) ?_
                        refine gtX0_15 hx hb hts hown hK hW cz0 dX0_run_289 ?_
                        refine lv_iconst (v := (2 : Int32)) hx hb dX0_run_292 (by decide) ?_
                        refine lv_iload hx hb dX0_run_293 (lv_at hl 0 rfl) ?_
                        replace h := bE_a h
                        obtain ⟨b34, M35, hcb34, h⟩ := h
                        refine tb_cVI hZk hx hb hml hown hts hK hZ hW hS [.int (0 : Int32), .int (mgI M33 2 0 0), .int (2 : Int32), .int v2] (hrr0 (0 : Int32) (mgI M33 2 0 0) (2 : Int32) v2 M33 b34 M35 hcb34) pmX0_run tw1121 (Wd.recv hK hW (t := 0) (by decide) cz0 (C := RX0) (T := TX0) (N := 5) rfl) ⟨(show F + 0 + 1 ≤ F + 1 by omega), (show 8 + (7 + 11) + (L + 0) ≤ L + 26 by omega)⟩ rfl hl.1 (Nat.le_of_ble_eq_true rfl) ⟨Nat.le_refl _, Nat.le_refl _⟩ rfl dX0_run_295 (fun H locs hW hS => ?_)
                        refine lv_isub hx hb dX0_run_298 ?_
                        exact tb_iretE h hx hb hr hS hW hlk dX0_run_299
                      · replace h := sh_f c31 h
                        by_cases c36 : b1 = (70 : Int32)
                        · replace h := sh_t c36 h
                          refine lv_lookup (off := 270) (tgt := 300) hx hb dX0_run_30 (by decide) (by rw [c36]; decide) (by decide) ?_
                          refine lv_aload_n hx hb dX0_run_300 rfl (lv_at hl 2 rfl) ?_
                          refine lv_iconst (v := (0 : Int32)) hx hb dX0_run_301 (by decide) ?_
                          refine va_gets hx hb hZ.2.2.2.1.1 hS hown (hts _ tw1130) (fun _ h9 => h9) dX0_run_302 ?_
                          refine lv_bipush (v := (6 : Int32)) hx hb dX0_run_305 (by decide) ?_
                          replace h := ix_a h
                          obtain ⟨hj, h⟩ := h
                          refine tb_Tiald hx hb hZ.2.2.2.1.2 hS hj dX0_run_307 ?_
                          refine lv_iload_n hx hb dX0_run_308 rfl (lv_at hl 5 rfl) ?_
                          refine lv_iconst (v := (1 : Int32)) hx hb dX0_run_309 (by decide) ?_
                          refine lv_iadd hx hb dX0_run_310 ?_
                          refine lv_iload hx hb dX0_run_311 (lv_at hl 0 rfl) ?_
                          replace h := bE_a h
                          obtain ⟨b37, M38, hcb37, h⟩ := h
                          refine tb_cVI hZk hx hb hml hown hts hK hZ hW hS [.int (0 : Int32), .int (tAb (6 : Int32).toNatClampNeg), .int (x3 + (1 : Int32)), .int v2] (hrr0 (0 : Int32) (tAb (6 : Int32).toNatClampNeg) (x3 + (1 : Int32)) v2 M5 b37 M38 hcb37) pmX0_run tw1121 (Wd.recv hK hW (t := 0) (by decide) cz0 (C := RX0) (T := TX0) (N := 5) rfl) ⟨(show F + 0 + 1 ≤ F + 1 by omega), (show 8 + (7 + 11) + (L + 0) ≤ L + 26 by omega)⟩ rfl hl.1 (Nat.le_of_ble_eq_true rfl) ⟨Nat.le_refl _, Nat.le_refl _⟩ rfl dX0_run_313 (fun H locs hW hS => ?_)
                          exact tb_iretE h hx hb hr hS hW hlk dX0_run_316
                        · replace h := sh_f c36 h
                          by_cases c39 : b1 = (71 : Int32)
                          · replace h := sh_t c39 h
                            refine lv_lookup (off := 287) (tgt := 317) hx hb dX0_run_30 (by decide) (by rw [c39]; decide) (by decide) ?_
                            refine lv_aload_n hx hb dX0_run_317 rfl (lv_at hl 2 rfl) ?_
                            refine lv_iconst (v := (2 : Int32)) hx hb dX0_run_318 (by decide) ?_
                            refine va_gets hx hb hZ.2.2.2.1.1 hS hown (hts _ tw1130) (fun _ h9 => h9) dX0_run_319 ?_
                            refine lv_bipush (v := (6 : Int32)) hx hb dX0_run_322 (by decide) ?_
                            replace h := ix_a h
                            obtain ⟨hj, h⟩ := h
                            refine tb_Tiald hx hb hZ.2.2.2.1.2 hS hj dX0_run_324 ?_
                            refine lv_iload_n hx hb dX0_run_325 rfl (lv_at hl 5 rfl) ?_
                            refine lv_iload hx hb dX0_run_326 (lv_at hl 0 rfl) ?_
                            replace h := bE_a h
                            obtain ⟨b40, M41, hcb40, h⟩ := h
                            refine tb_cVI hZk hx hb hml hown hts hK hZ hW hS [.int (2 : Int32), .int (tAb (6 : Int32).toNatClampNeg), .int x3, .int v2] (hrr0 (2 : Int32) (tAb (6 : Int32).toNatClampNeg) x3 v2 M5 b40 M41 hcb40) pmX0_run tw1121 (Wd.recv hK hW (t := 0) (by decide) cz0 (C := RX0) (T := TX0) (N := 5) rfl) ⟨(show F + 0 + 1 ≤ F + 1 by omega), (show 8 + (7 + 11) + (L + 0) ≤ L + 26 by omega)⟩ rfl hl.1 (Nat.le_of_ble_eq_true rfl) ⟨Nat.le_refl _, Nat.le_refl _⟩ rfl dX0_run_328 (fun H locs hW hS => ?_)
                            refine lv_iconst (v := (2 : Int32)) hx hb dX0_run_331 (by decide) ?_
                            refine lv_imul hx hb dX0_run_332 ?_
                            exact tb_iretE h hx hb hr hS hW hlk dX0_run_333
                          · replace h := sh_f c39 h
                            refine lv_lookup (off := 304) (tgt := 334) hx hb dX0_run_30 (by decide) (lk_no (fun e => c6 (Int32.toInt_inj.mp (e.symm.trans (by decide)))) (lk_no (fun e => c7 (Int32.toInt_inj.mp (e.symm.trans (by decide)))) (lk_no (fun e => c12 (Int32.toInt_inj.mp (e.symm.trans (by decide)))) (lk_no (fun e => c15 (Int32.toInt_inj.mp (e.symm.trans (by decide)))) (lk_no (fun e => c16 (Int32.toInt_inj.mp (e.symm.trans (by decide)))) (lk_no (fun e => c19 (Int32.toInt_inj.mp (e.symm.trans (by decide)))) (lk_no (fun e => c22 (Int32.toInt_inj.mp (e.symm.trans (by decide)))) (lk_no (fun e => c25 (Int32.toInt_inj.mp (e.symm.trans (by decide)))) (lk_no (fun e => c28 (Int32.toInt_inj.mp (e.symm.trans (by decide)))) (lk_no (fun e => c31 (Int32.toInt_inj.mp (e.symm.trans (by decide)))) (lk_no (fun e => c36 (Int32.toInt_inj.mp (e.symm.trans (by decide)))) (lk_no (fun e => c39 (Int32.toInt_inj.mp (e.symm.trans (by decide)))) (lk_end))))))))))))) (by decide) ?_
                            refine lv_iconst (v := (0 : Int32)) hx hb dX0_run_334 (by decide) ?_
                            exact tb_iretE h hx hb hr hS hW hlk dX0_run_335
  · replace h := sh_f c3 h
    refine lv_iconst (v := (0 : Int32)) hx hb dX0_run_20 (by decide) ?_
    exact tb_iretE h hx hb hr hS hW hlk dX0_run_21
def fX0_runN : Nat → Int32 → Int32 → Int32 → Int32 → Mem → Option (Int32 × Mem)
  | 0, _, _, _, _, _ => none
  | n + 1, a, b, c, d, M => fX0_run (fX0_runN n) a b c d M
theorem mX0_runN {l : Launch} {D : va_G} {cy : Nat → ClassId} {A : Nat → Prop} {K : KC} {nS nL : Nat} {ad : Nat → Nat → Nat} (hZk : ZOK A (ZC A K)) (n : Nat) : ∀ (x1 x2 x3 x4 : Int32) (M0 : Mem) (r : Int32) (M' : Mem), fX0_runN n x1 x2 x3 x4 M0 = some (r, M') → Met l yX0_run (wt yX0_run cX0_run 7 (some .int)) (rm (1 * n) (26 * n)) (CPre D cy A (ZC A K) (cnC nS nL) ad M0 [.ref (ad 0 0), .int x1, .int x2, .int x3, .int x4]) (QI D cy A (cnC nS nL) ad r M') 0 0 A := by
  induction n with
  | zero => intro x1 x2 x3 x4 M0 r M' h; cases h
  | succ n ih => intro x1 x2 x3 x4 M0 r M' h; exact mX0_run hZk (fX0_runN n) x1 x2 x3 x4 M0 (1 * n) (26 * n) ih r M' h
def fX0_runT (a b c d : Int32) (M : Mem) : Option (Int32 × Mem) := fX0_runN 26 a b c d M
theorem mX0_runT {l : Launch} {D : va_G} {cy : Nat → ClassId} {A : Nat → Prop} {K : KC} {nS nL : Nat} {ad : Nat → Nat → Nat} (hZk : ZOK A (ZC A K)) (x1 x2 x3 x4 : Int32) (M0 : Mem) (r : Int32) (M' : Mem) (h : fX0_runT x1 x2 x3 x4 M0 = some (r, M')) : Met l yX0_run (wt yX0_run cX0_run 7 (some .int)) (rm 26 676) (CPre D cy A (ZC A K) (cnC nS nL) ad M0 [.ref (ad 0 0), .int x1, .int x2, .int x3, .int x4]) (QI D cy A (cnC nS nL) ad r M') 0 0 A := mX0_runN hZk 26 x1 x2 x3 x4 M0 r M' h
def fX0_doAs_b24 (x3 : Int32) (x4 : Int32) (k7 : (Option Nat) → Mem → Option (Int32 × Mem)) (o8 : Option Nat) (M9 : Mem) : Option (Int32 × Mem) :=
  oc o8 (bE (fX0_runT x3 (mgI M9 2 0 0) x4 (0 : Int32) M9) fun b11 M12 => some (b11, M12)) fun a10 => if (mgI M9 405 a10 0) = 0 then (nm ((mgI M9 4 0 0) + (1 : Int32)) fun v15 => nm (msI M9 4 0 0 v15) fun M16 => nm (mgR M16 402 a10 0) fun o17 => k7 o17 M16) else (nm (mgR M9 402 a10 0) fun o14 => k7 o14 M9)
def fX0_doAs_l24 (x3 : Int32) (x4 : Int32) : Nat → (Option Nat) → Mem → Option (Int32 × Mem)
  | 0, _, _ => none
  | n + 1, o8, M9 => fX0_doAs_b24 x3 x4 (fX0_doAs_l24 x3 x4 n) o8 M9
def fX0_doAs (x1 : Int32) (x2 : Option Nat) (x3 : Int32) (x4 : Int32) (M0 : Mem) : Option (Int32 × Mem) :=
  nm (msI M0 2 0 0 x1) fun M1 => oc x2 none fun a2 => nm (mgI M1 800 a2 0) fun v3 => nm (msI M1 3 0 0 v3) fun M4 => nm (msI M4 4 0 0 (0 : Int32)) fun M5 => nm (mgR M5 813 a2 0) fun o6 => fX0_doAs_l24 x3 x4 FU o6 M5
set_option maxHeartbeats 4000000 in
set_option maxRecDepth 100000 in
theorem mX0_doAs {l : Launch} {D : va_G} {cy : Nat → ClassId} {A : Nat → Prop} {K : KC} {nS nL : Nat} {ad : Nat → Nat → Nat} (hZk : ZOK A (ZC A K)) (x1 : Int32) (x2 : Option Nat) (x3 : Int32) (x4 : Int32) (M0 : Mem) (hx2 : ∀ z, x2 = some z → z < (cnC nS nL) 8) (r : Int32) (M' : Mem) (h : fX0_doAs x1 x2 x3 x4 M0 = some (r, M')) : Met l yX0_doAs (wt yX0_doAs cX0_doAs 6 (some .int)) (rm 27 702) (CPre D cy A (ZC A K) (cnC nS nL) ad M0 [.ref (ad 0 0), .int x1, rv (ad 8) x2, .int x3, .int x4]) (QI D cy A (cnC nS nL) ad r M') 0 0 A := by
  refine tb_start [.ref (ad 0 0), .int x1, rv (ad 8) x2, .int x3, .int x4] [(0, .ref (ad 0 0)), (1, .int x1), (2, rv (ad 8) x2), (3, .int x3), (4, .int x4)] RX0 rfl (by decide +kernel) (by simp [lg_sl, List.flatMap_cons, rv_cat, cat_r, cat_i, cat_l]) (by simp [lv_args, rv_cat, cat_r, cat_i, cat_l]) (fun p e s m args below meth c hx hb hr hml hown hts hlk hW hK hZ ls hl => ?_)
  have hS : va_S A s.heap s.heap [] := va_S.rf
  unfold fX0_doAs at h
  refine lv_aload_n hx hb dX0_doAs_0 rfl (lv_at hl 0 rfl) ?_
  refine lv_iload_n hx hb dX0_doAs_1 rfl (lv_at hl 1 rfl) ?_
  refine ptX0_15 hx hb hts hown hK hW hS cz0 dX0_doAs_2 (fun H locs hW hS => ?_)
  obtain ⟨M1, eM1⟩ : ∃ y, y = msI M0 2 0 0 x1 := ⟨_, rfl⟩
  replace h := nm_a eM1 h
  rw [← eM1] at hW
  refine lv_aload_n hx hb dX0_doAs_5 rfl (lv_at hl 0 rfl) ?_
  refine tb_aload_n hx hb dX0_doAs_6 rfl (lv_at hl 2 rfl) ?_
  replace h := oc_d h
  obtain ⟨a2, ea2, h⟩ := h
  subst ea2
  have la2 := hx2 _ rfl
  refine gtX0_19 hx hb hts hown hK hW la2 dX0_doAs_7 ?_
  refine lv_topi (fun v3 ev3 => ?_)
  replace h := nm_a ev3 h
  refine ptX0_24 hx hb hts hown hK hW hS cz0 dX0_doAs_10 (fun H locs hW hS => ?_)
  obtain ⟨M4, eM4⟩ : ∃ y, y = msI M1 3 0 0 v3 := ⟨_, rfl⟩
  replace h := nm_a eM4 h
  rw [← eM4] at hW
  refine lv_aload_n hx hb dX0_doAs_13 rfl (lv_at hl 0 rfl) ?_
  refine lv_iconst (v := (0 : Int32)) hx hb dX0_doAs_14 (by decide) ?_
  refine ptX0_27 hx hb hts hown hK hW hS cz0 dX0_doAs_15 (fun H locs hW hS => ?_)
  obtain ⟨M5, eM5⟩ : ∃ y, y = msI M4 4 0 0 (0 : Int32) := ⟨_, rfl⟩
  replace h := nm_a eM5 h
  rw [← eM5] at hW
  refine lv_aload_n hx hb dX0_doAs_18 rfl (lv_at hl 2 rfl) ?_
  refine gtX0_30 hx hb hts hown hK hW la2 dX0_doAs_19 ?_
  refine tb_topr (fun o6 eo6 => ?_)
  replace h := nm_a eo6 h
  have ho6 : ∀ z, o6 = some z → z < (cnC nS nL) 4 := fun z hz => hW.ref 1 rfl (eo6.symm.trans hz)
  refine tb_astore (lv' := [(5, rv (ad 4) o6), (0, .ref (ad 0 0)), (1, .int x1), (2, .ref (ad 8 a2)), (3, .int x3), (4, .int x4)]) hx hb dX0_doAs_22 hl (by decide) rfl (fun ls hl => ?_)
  have L7 : ∀ (n7 : Nat) (o8 : Option Nat) (M9 : Mem) (H : Heap) (locs : List Loc) (ls : Array Slot), Wd D cy A (cnC nS nL) ad M9 H → va_S A s.heap H locs → lv_has ls 6 [(0, .ref (ad 0 0)), (3, .int x3), (4, .int x4), (5, rv (ad 4) o8)] → (∀ z, o8 = some z → z < (cnC nS nL) 4) → fX0_doAs_l24 x3 x4 n7 o8 M9 = some (r, M') → W p l e (rm 27 702) s m args below meth c H locs 0 0 (MQ below (QI D cy A (cnC nS nL) ad r M') args s 0 0 A) (F0 m 24 ls []) := by
    intro n7
    induction n7 with
    | zero => intro o8 M9 H locs ls hW hS hl ho8 h; cases h
    | succ n7 ih7 =>
      intro o8 M9 H locs ls hW hS hl ho8 h
      unfold fX0_doAs_l24 fX0_doAs_b24 at h
      refine tb_aload hx hb dX0_doAs_24 (lv_at hl 3 rfl) ?_
      refine tb_ifnull (tgt := 57) hx hb dX0_doAs_26 (by decide) (fun e0 => ?_) (fun a10 ea10 => ?_)
      · replace h := oc_n e0 h
        subst e0
        refine lv_aload_n hx hb dX0_doAs_57 rfl (lv_at hl 0 rfl) ?_
        refine lv_iload_n hx hb dX0_doAs_58 rfl (lv_at hl 1 rfl) ?_
        refine lv_aload_n hx hb dX0_doAs_59 rfl (lv_at hl 0 rfl) ?_
        refine gtX0_15 hx hb hts hown hK hW cz0 dX0_doAs_60 ?_
        refine lv_iload hx hb dX0_doAs_63 (lv_at hl 2 rfl) ?_
        refine lv_iconst (v := (0 : Int32)) hx hb dX0_doAs_65 (by decide) ?_
        replace h := bE_a h
        obtain ⟨b11, M12, hcb11, h⟩ := h
        refine tb_cVI hZk hx hb hml hown hts hK hZ hW hS [.int x3, .int (mgI M9 2 0 0), .int x4, .int (0 : Int32)] (mX0_runT (l := l) hZk x3 (mgI M9 2 0 0) x4 (0 : Int32) M9 b11 M12 hcb11) pmX0_run tw1121 (Wd.recv hK hW (t := 0) (by decide) cz0 (C := RX0) (T := TX0) (N := 5) rfl) ⟨Nat.le_of_ble_eq_true rfl, Nat.le_of_ble_eq_true rfl⟩ rfl hl.1 (Nat.le_of_ble_eq_true rfl) ⟨Nat.le_refl _, Nat.le_refl _⟩ rfl dX0_doAs_66 (fun H locs hW hS => ?_)
        exact tb_iretE h hx hb hr hS hW hlk dX0_doAs_69
      · replace h := oc_s ea10 h
        subst ea10
        have la10 := ho8 _ rfl
        refine lv_aload hx hb dX0_doAs_29 (lv_at hl 3 rfl) ?_
        refine gtX0_34 hx hb hts hown hK hW la10 dX0_doAs_31 ?_
        refine lv_if_ne (tgt := 47) hx hb dX0_doAs_34 (by decide) (fun c13 => ?_) (fun c13 => ?_)
        · replace h := sh_f c13 h
          refine lv_aload hx hb dX0_doAs_47 (lv_at hl 3 rfl) ?_
          refine gtX0_40 hx hb hts hown hK hW la10 dX0_doAs_49 ?_
          refine tb_topr (fun o14 eo14 => ?_)
          replace h := nm_a eo14 h
          have ho14 : ∀ z, o14 = some z → z < (cnC nS nL) 4 := fun z hz => hW.ref 0 rfl (eo14.symm.trans hz)
          refine tb_astore (lv' := [(5, rv (ad 4) o14), (0, .ref (ad 0 0)), (3, .int x3), (4, .int x4)]) hx hb dX0_doAs_52 hl (by decide) rfl (fun ls hl => ?_)
          refine lv_goto (tgt := 24) hx hb dX0_doAs_54 (by decide) ?_
          exact ih7 o14 M9 _ _ _ hW hS (lv_sub hl [1, 2, 3, 0] rfl) ho14 h
        · replace h := sh_t c13 h
          refine lv_aload_n hx hb dX0_doAs_37 rfl (lv_at hl 0 rfl) ?_
          refine lv_dup hx hb dX0_doAs_38 rfl ?_
          refine gtX0_27 hx hb hts hown hK hW cz0 dX0_doAs_39 ?_
          refine lv_iconst (v := (1 : Int32)) hx hb dX0_doAs_42 (by decide) ?_
          refine lv_iadd hx hb dX0_doAs_43 ?_
          refine lv_topi (fun v15 ev15 => ?_)
          replace h := nm_a ev15 h
          refine ptX0_27 hx hb hts hown hK hW hS cz0 dX0_doAs_44 (fun H locs hW hS => ?_)
          obtain ⟨M16, eM16⟩ : ∃ y, y = msI M9 4 0 0 v15 := ⟨_, rfl⟩
          replace h := nm_a eM16 h
          rw [← eM16] at hW
          refine lv_aload hx hb dX0_doAs_47 (lv_at hl 3 rfl) ?_
          refine gtX0_40 hx hb hts hown hK hW la10 dX0_doAs_49 ?_
          refine tb_topr (fun o17 eo17 => ?_)
          replace h := nm_a eo17 h
          have ho17 : ∀ z, o17 = some z → z < (cnC nS nL) 4 := fun z hz => hW.ref 0 rfl (eo17.symm.trans hz)
          refine tb_astore (lv' := [(5, rv (ad 4) o17), (0, .ref (ad 0 0)), (3, .int x3), (4, .int x4)]) hx hb dX0_doAs_52 hl (by decide) rfl (fun ls hl => ?_)
          refine lv_goto (tgt := 24) hx hb dX0_doAs_54 (by decide) ?_
          exact ih7 o17 M16 _ _ _ hW hS (lv_sub hl [1, 2, 3, 0] rfl) ho17 h
  exact L7 FU o6 M5 _ _ _ hW hS (lv_sub hl [1, 4, 5, 0] rfl) ho6 h
def fX11_act (x1 : Int32) (x2 : Int32) (x3 : Int32) (M0 : Mem) : Option (Int32 × Mem) :=
  nm (msI M0 1 0 0 (0 : Int32)) fun M1 => bd (fX5_stoneAt x1 M1) fun o2 => oc o2 (some ((0 : Int32), M1)) fun a3 => if x2 < 0 then (some ((0 : Int32), M1)) else (if x2 ≤ (3 : Int32) then (bd (fX5_kindNow (some a3) M1) fun b6 => bE (fX0_doAs b6 (some a3) x2 x3 M1) fun b7 M8 => some (b7, M8)) else (some ((0 : Int32), M1)))
set_option maxHeartbeats 4000000 in
set_option maxRecDepth 100000 in
theorem mX11_act {l : Launch} {D : va_G} {cy : Nat → ClassId} {A : Nat → Prop} {K : KC} {nS nL : Nat} {ad : Nat → Nat → Nat} (hZk : ZOK A (ZC A K)) (x1 : Int32) (x2 : Int32) (x3 : Int32) (M0 : Mem) (r : Int32) (M' : Mem) (h : fX11_act x1 x2 x3 M0 = some (r, M')) : Met l yX11_act (wt yX11_act cX11_act 5 (some .int)) (rm 28 727) (CPre D cy A (ZC A K) (cnC nS nL) ad M0 [.ref (ad 11 0), .int x1, .int x2, .int x3]) (QI D cy A (cnC nS nL) ad r M') 0 0 A := by
  refine tb_start [.ref (ad 11 0), .int x1, .int x2, .int x3] [(0, .ref (ad 11 0)), (1, .int x1), (2, .int x2), (3, .int x3)] RX11 rfl (by decide +kernel) (Nat.le_of_ble_eq_true rfl) rfl (fun p e s m args below meth c hx hb hr hml hown hts hlk hW hK hZ ls hl => ?_)
  have hS : va_S A s.heap s.heap [] := va_S.rf
  unfold fX11_act at h
  refine lv_aload_n hx hb dX11_act_0 rfl (lv_at hl 0 rfl) ?_
  refine gtX11_58 hx hb hts hown hK hW cz11 dX11_act_1 ?_
  refine lv_iconst (v := (0 : Int32)) hx hb dX11_act_4 (by decide) ?_
  refine ptX11_357 hx hb hts hown hK hW hS cz0 dX11_act_5 (fun H locs hW hS => ?_)
  obtain ⟨M1, eM1⟩ : ∃ y, y = msI M0 1 0 0 (0 : Int32) := ⟨_, rfl⟩
  replace h := nm_a eM1 h
  rw [← eM1] at hW
  refine lv_aload_n hx hb dX11_act_8 rfl (lv_at hl 0 rfl) ?_
  refine gtX11_10 hx hb hts hown hK hW cz11 dX11_act_9 ?_
  refine lv_iload_n hx hb dX11_act_12 rfl (lv_at hl 1 rfl) ?_
  replace h := bd_a h
  obtain ⟨o2, hco2, h⟩ := h
  refine tb_cVR hZk hx hb hml hown hts hK hZ hW hS [.int x1] (mX5_stoneAt (l := l) hZk x1 M1 o2 hco2) pmX5_stoneAt tw502 (Wd.recv hK hW (t := 5) (by decide) cz5 (C := RX5) (T := TX5) (N := 7) rfl) ⟨Nat.le_of_ble_eq_true rfl, Nat.le_of_ble_eq_true rfl⟩ rfl hl.1 (Nat.le_of_ble_eq_true rfl) ⟨Nat.le_refl _, Nat.le_refl _⟩ rfl dX11_act_13 (fun H locs hW hS hrr => ?_)
  have ho2 := hrr
  refine tb_astore (lv' := [(4, rv (ad 8) o2), (0, .ref (ad 11 0)), (1, .int x1), (2, .int x2), (3, .int x3)]) hx hb dX11_act_16 hl (by decide) rfl (fun ls hl => ?_)
  refine tb_aload hx hb dX11_act_18 (lv_at hl 0 rfl) ?_
  refine tb_ifnull (tgt := 32) hx hb dX11_act_20 (by decide) (fun e0 => ?_) (fun a3 ea3 => ?_)
  · replace h := oc_n e0 h
    subst e0
    refine lv_iconst (v := (0 : Int32)) hx hb dX11_act_32 (by decide) ?_
    exact tb_iretE h hx hb hr hS hW hlk dX11_act_33
  · replace h := oc_s ea3 h
    subst ea3
    have la3 := ho2 _ rfl
    refine lv_iload_n hx hb dX11_act_23 rfl (lv_at hl 3 rfl) ?_
    refine lv_if_lt (tgt := 32) hx hb dX11_act_24 (by decide) (fun c4 => ?_) (fun c4 => ?_)
    · replace h := sh_t c4 h
      refine lv_iconst (v := (0 : Int32)) hx hb dX11_act_32 (by decide) ?_
      exact tb_iretE h hx hb hr hS hW hlk dX11_act_33
    · replace h := sh_f c4 h
      refine lv_iload_n hx hb dX11_act_27 rfl (lv_at hl 3 rfl) ?_
      refine lv_iconst (v := (3 : Int32)) hx hb dX11_act_28 (by decide) ?_
      refine lv_icmp_le (tgt := 34) hx hb dX11_act_29 (by decide) (fun c5 => ?_) (fun c5 => ?_)
      · replace h := sh_t c5 h
        refine lv_aload_n hx hb dX11_act_34 rfl (lv_at hl 1 rfl) ?_
        refine gtX11_58 hx hb hts hown hK hW cz11 dX11_act_35 ?_
        refine lv_aload_n hx hb dX11_act_38 rfl (lv_at hl 1 rfl) ?_
        refine gtX11_10 hx hb hts hown hK hW cz11 dX11_act_39 ?_
        refine lv_aload hx hb dX11_act_42 (lv_at hl 0 rfl) ?_
        replace h := bd_a h
        obtain ⟨b6, hcb6, h⟩ := h
        refine tb_cVI hZk hx hb hml hown hts hK hZ hW hS [.ref (ad 8 a3)] (mX5_kindNow (l := l) hZk (some a3) M1 (fun z hz => Option.some.inj hz ▸ la3) b6 hcb6) pmX5_kindNow tw612 (Wd.recv hK hW (t := 5) (by decide) cz5 (C := RX5) (T := TX5) (N := 7) rfl) ⟨Nat.le_of_ble_eq_true rfl, Nat.le_of_ble_eq_true rfl⟩ rfl hl.1 (Nat.le_of_ble_eq_true rfl) ⟨Nat.le_refl _, Nat.le_refl _⟩ rfl dX11_act_44 (fun H locs hW hS => ?_)
        refine lv_aload hx hb dX11_act_47 (lv_at hl 0 rfl) ?_
        refine lv_iload_n hx hb dX11_act_49 rfl (lv_at hl 3 rfl) ?_
        refine lv_iload_n hx hb dX11_act_50 rfl (lv_at hl 4 rfl) ?_
        replace h := bE_a h
        obtain ⟨b7, M8, hcb7, h⟩ := h
        refine tb_cVI hZk hx hb hml hown hts hK hZ hW hS [.int b6, .ref (ad 8 a3), .int x2, .int x3] (mX0_doAs (l := l) hZk b6 (some a3) x2 x3 M1 (fun z hz => Option.some.inj hz ▸ la3) b7 M8 hcb7) pmX0_doAs tw1117 (Wd.recv hK hW (t := 0) (by decide) cz0 (C := RX0) (T := TX0) (N := 5) rfl) ⟨Nat.le_of_ble_eq_true rfl, Nat.le_of_ble_eq_true rfl⟩ rfl hl.1 (Nat.le_of_ble_eq_true rfl) ⟨Nat.le_refl _, Nat.le_refl _⟩ rfl dX11_act_51 (fun H locs hW hS => ?_)
        exact tb_iretE h hx hb hr hS hW hlk dX11_act_54
      · replace h := sh_f c5 h
        refine lv_iconst (v := (0 : Int32)) hx hb dX11_act_32 (by decide) ?_
        exact tb_iretE h hx hb hr hS hW hlk dX11_act_33
