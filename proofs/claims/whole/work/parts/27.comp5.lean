def fX11_count (x1 : Int32) (M0 : Mem) : Int32 :=
  if x1 = (0 : Int32) then (mgI M0 502 0 0) else if x1 = (1 : Int32) then (mgI M0 503 0 0) else if x1 = (2 : Int32) then (mgI M0 201 0 0) else if x1 = (3 : Int32) then (mgI M0 504 0 0) else if x1 = (4 : Int32) then (mgI M0 701 0 0) else if x1 = (5 : Int32) then (mgI M0 100 0 0) else if x1 = (6 : Int32) then (mgI M0 1 0 0) else (-1 : Int32)
set_option maxHeartbeats 4000000 in
set_option maxRecDepth 100000 in
theorem mX11_count {l : Launch} {D : va_G} {cy : Nat → ClassId} {A : Nat → Prop} {K : KC} {nS nL : Nat} {ad : Nat → Nat → Nat} (hZk : ZOK A (ZC A K)) (x1 : Int32) (M0 : Mem) (r : Int32) (h : fX11_count x1 M0 = r) : Met l yX11_count (wt yX11_count cX11_count 2 (some .int)) (rm 0 0) (CPre D cy A (ZC A K) (cnC nS nL) ad M0 [.ref (ad 11 0), .int x1]) (QI D cy A (cnC nS nL) ad r M0) 0 0 A := by
  refine tb_start [.ref (ad 11 0), .int x1] [(0, .ref (ad 11 0)), (1, .int x1)] RX11 rfl (by decide +kernel) (Nat.le_of_ble_eq_true rfl) rfl (fun p e s m args below meth c hx hb hr hml hown hts hlk hW hK hZ ls hl => ?_)
  have hS : va_S A s.heap s.heap [] := va_S.rf
  unfold fX11_count at h
  refine lv_iload_n hx hb dX11_count_0 rfl (lv_at hl 1 rfl) ?_
  by_cases c1 : x1 = (0 : Int32)
  · replace h := sh_t c1 h
    refine lv_tableIn (off := 43) (tgt := 44) hx hb dX11_count_1 (by rw [c1]; decide) (by rw [c1]; decide) (by rw [c1]; rfl) (by decide) ?_
    refine lv_aload_n hx hb dX11_count_44 rfl (lv_at hl 0 rfl) ?_
    refine gtX11_10 hx hb hts hown hK hW cz11 dX11_count_45 ?_
    refine gtX11_73 hx hb hts hown hK hW cz5 dX11_count_48 ?_
    exact tb_iretP h hx hb hr hS hW hlk dX11_count_51
  · replace h := sh_f c1 h
    by_cases c2 : x1 = (1 : Int32)
    · replace h := sh_t c2 h
      refine lv_tableIn (off := 51) (tgt := 52) hx hb dX11_count_1 (by rw [c2]; decide) (by rw [c2]; decide) (by rw [c2]; rfl) (by decide) ?_
      refine lv_aload_n hx hb dX11_count_52 rfl (lv_at hl 0 rfl) ?_
      refine gtX11_10 hx hb hts hown hK hW cz11 dX11_count_53 ?_
      refine gtX11_96 hx hb hts hown hK hW cz5 dX11_count_56 ?_
      exact tb_iretP h hx hb hr hS hW hlk dX11_count_59
    · replace h := sh_f c2 h
      by_cases c3 : x1 = (2 : Int32)
      · replace h := sh_t c3 h
        refine lv_tableIn (off := 59) (tgt := 60) hx hb dX11_count_1 (by rw [c3]; decide) (by rw [c3]; decide) (by rw [c3]; rfl) (by decide) ?_
        refine lv_aload_n hx hb dX11_count_60 rfl (lv_at hl 0 rfl) ?_
        refine gtX11_21 hx hb hts hown hK hW cz11 dX11_count_61 ?_
        refine gtX11_277 hx hb hts hown hK hW cz2 dX11_count_64 ?_
        exact tb_iretP h hx hb hr hS hW hlk dX11_count_67
      · replace h := sh_f c3 h
        by_cases c4 : x1 = (3 : Int32)
        · replace h := sh_t c4 h
          refine lv_tableIn (off := 67) (tgt := 68) hx hb dX11_count_1 (by rw [c4]; decide) (by rw [c4]; decide) (by rw [c4]; rfl) (by decide) ?_
          refine lv_aload_n hx hb dX11_count_68 rfl (lv_at hl 0 rfl) ?_
          refine gtX11_10 hx hb hts hown hK hW cz11 dX11_count_69 ?_
          refine gtX11_209 hx hb hts hown hK hW cz5 dX11_count_72 ?_
          exact tb_iretP h hx hb hr hS hW hlk dX11_count_75
        · replace h := sh_f c4 h
          by_cases c5 : x1 = (4 : Int32)
          · replace h := sh_t c5 h
            refine lv_tableIn (off := 75) (tgt := 76) hx hb dX11_count_1 (by rw [c5]; decide) (by rw [c5]; decide) (by rw [c5]; rfl) (by decide) ?_
            refine lv_aload_n hx hb dX11_count_76 rfl (lv_at hl 0 rfl) ?_
            refine gtX11_44 hx hb hts hown hK hW cz11 dX11_count_77 ?_
            refine gtX11_251 hx hb hts hown hK hW cz7 dX11_count_80 ?_
            exact tb_iretP h hx hb hr hS hW hlk dX11_count_83
          · replace h := sh_f c5 h
            by_cases c6 : x1 = (5 : Int32)
            · replace h := sh_t c6 h
              refine lv_tableIn (off := 83) (tgt := 84) hx hb dX11_count_1 (by rw [c6]; decide) (by rw [c6]; decide) (by rw [c6]; rfl) (by decide) ?_
              refine lv_aload_n hx hb dX11_count_84 rfl (lv_at hl 0 rfl) ?_
              refine gtX11_51 hx hb hts hown hK hW cz11 dX11_count_85 ?_
              refine gtX11_348 hx hb hts hown hK hW cz1 dX11_count_88 ?_
              exact tb_iretP h hx hb hr hS hW hlk dX11_count_91
            · replace h := sh_f c6 h
              by_cases c7 : x1 = (6 : Int32)
              · replace h := sh_t c7 h
                refine lv_tableIn (off := 91) (tgt := 92) hx hb dX11_count_1 (by rw [c7]; decide) (by rw [c7]; decide) (by rw [c7]; rfl) (by decide) ?_
                refine lv_aload_n hx hb dX11_count_92 rfl (lv_at hl 0 rfl) ?_
                refine gtX11_58 hx hb hts hown hK hW cz11 dX11_count_93 ?_
                refine gtX11_357 hx hb hts hown hK hW cz0 dX11_count_96 ?_
                exact tb_iretP h hx hb hr hS hW hlk dX11_count_99
              · replace h := sh_f c7 h
                refine lv_tableOut (tgt := 100) hx hb dX11_count_1 (sw_out x1 (by decide) (fun z h1 h2 => by
                  rcases (show z = 0 ∨ z = 1 ∨ z = 2 ∨ z = 3 ∨ z = 4 ∨ z = 5 ∨ z = 6 by omega) with rfl | rfl | rfl | rfl | rfl | rfl | rfl <;> first | exact fun e => c1 (Int32.toInt_inj.mp (e.trans (by decide))) | exact fun e => c2 (Int32.toInt_inj.mp (e.trans (by decide))) | exact fun e => c3 (Int32.toInt_inj.mp (e.trans (by decide))) | exact fun e => c4 (Int32.toInt_inj.mp (e.trans (by decide))) | exact fun e => c5 (Int32.toInt_inj.mp (e.trans (by decide))) | exact fun e => c6 (Int32.toInt_inj.mp (e.trans (by decide))) | exact fun e => c7 (Int32.toInt_inj.mp (e.trans (by decide))))) (by decide) ?_
                refine lv_iconst (v := (-1 : Int32)) hx hb dX11_count_100 (by decide) ?_
                exact tb_iretP h hx hb hr hS hW hlk dX11_count_101
def fX11_byteOr (x1 : Int32) (x2 : Int32) (x3 : Int32) (M0 : Mem) : Option Int32 :=
  bd (fX6_hasElement x1 x2 M0) fun b1 => if b1 = 0 then (some x3) else (bd (fX6_at x1 x2 M0) fun g3 => some g3.toInt32)
set_option maxHeartbeats 4000000 in
set_option maxRecDepth 100000 in
theorem mX11_byteOr {l : Launch} {D : va_G} {cy : Nat → ClassId} {A : Nat → Prop} {K : KC} {nS nL : Nat} {ad : Nat → Nat → Nat} (hZk : ZOK A (ZC A K)) (x1 : Int32) (x2 : Int32) (x3 : Int32) (M0 : Mem) (r : Int32) (h : fX11_byteOr x1 x2 x3 M0 = some r) : Met l yX11_byteOr (wt yX11_byteOr cX11_byteOr 4 (some .int)) (rm 2 43) (CPre D cy A (ZC A K) (cnC nS nL) ad M0 [.ref (ad 11 0), .int x1, .int x2, .int x3]) (QI D cy A (cnC nS nL) ad r M0) 0 0 A := by
  refine tb_start [.ref (ad 11 0), .int x1, .int x2, .int x3] [(0, .ref (ad 11 0)), (1, .int x1), (2, .int x2), (3, .int x3)] RX11 rfl (by decide +kernel) (Nat.le_of_ble_eq_true rfl) rfl (fun p e s m args below meth c hx hb hr hml hown hts hlk hW hK hZ ls hl => ?_)
  have hS : va_S A s.heap s.heap [] := va_S.rf
  unfold fX11_byteOr at h
  refine lv_aload_n hx hb dX11_byteOr_0 rfl (lv_at hl 0 rfl) ?_
  refine gtX11_65 hx hb hts hown hK hW cz11 dX11_byteOr_1 ?_
  refine lv_iload_n hx hb dX11_byteOr_4 rfl (lv_at hl 1 rfl) ?_
  refine lv_iload_n hx hb dX11_byteOr_5 rfl (lv_at hl 2 rfl) ?_
  replace h := bd_a h
  obtain ⟨b1, hcb1, h⟩ := h
  refine tb_cVZ hZk hx hb hml hown hts hK hZ hW hS [.int x1, .int x2] (mX6_hasElement (l := l) hZk x1 x2 M0 b1 hcb1) pmX6_hasElement tw592 (Wd.recv hK hW (t := 6) (by decide) cz6 (C := RX6) (T := TX6) (N := 4) rfl) ⟨Nat.le_of_ble_eq_true rfl, Nat.le_of_ble_eq_true rfl⟩ rfl hl.1 (Nat.le_of_ble_eq_true rfl) ⟨Nat.le_refl _, Nat.le_refl _⟩ rfl dX11_byteOr_6 (fun H locs hW hS hzz => ?_)
  have hzb1 := hzz
  refine lv_if_eq (tgt := 25) hx hb dX11_byteOr_9 (by decide) (fun c2 => ?_) (fun c2 => ?_)
  · replace h := sh_t c2 h
    refine lv_iload_n hx hb dX11_byteOr_25 rfl (lv_at hl 3 rfl) ?_
    exact tb_iretO h hx hb hr hS hW hlk dX11_byteOr_26
  · replace h := sh_f c2 h
    refine lv_aload_n hx hb dX11_byteOr_12 rfl (lv_at hl 0 rfl) ?_
    refine gtX11_65 hx hb hts hown hK hW cz11 dX11_byteOr_13 ?_
    refine lv_iload_n hx hb dX11_byteOr_16 rfl (lv_at hl 1 rfl) ?_
    refine lv_iload_n hx hb dX11_byteOr_17 rfl (lv_at hl 2 rfl) ?_
    replace h := bd_a h
    obtain ⟨g3, hcg3, h⟩ := h
    refine tb_cVL hZk hx hb hml hown hts hK hZ hW hS [.int x1, .int x2] (mX6_at (l := l) hZk x1 x2 M0 g3 hcg3) pmX6_at tw604 (Wd.recv hK hW (t := 6) (by decide) cz6 (C := RX6) (T := TX6) (N := 4) rfl) ⟨Nat.le_of_ble_eq_true rfl, Nat.le_of_ble_eq_true rfl⟩ rfl hl.1 (Nat.le_of_ble_eq_true rfl) ⟨Nat.le_refl _, Nat.le_refl _⟩ rfl dX11_byteOr_18 (fun H locs hW hS => ?_)
    refine lv_l2i hx hb dX11_byteOr_21 rfl ?_
    refine lv_goto (tgt := 26) hx hb dX11_byteOr_22 (by decide) ?_
    exact tb_iretO h hx hb hr hS hW hlk dX11_byteOr_26
def fX11_isResult (x0 : Int32) : Int32 :=
  if x0 < (-999 : Int32) then ((0 : Int32)) else (if (999 : Int32) < x0 then ((0 : Int32)) else ((1 : Int32)))
set_option maxHeartbeats 4000000 in
set_option maxRecDepth 100000 in
theorem mX11_isResult {l : Launch} {D : va_G} {cy : Nat → ClassId} {A : Nat → Prop} {K : KC} {nS nL : Nat} {ad : Nat → Nat → Nat} (hZk : ZOK A (ZC A K)) (x0 : Int32) (M0 : Mem) (r : Int32) (h : fX11_isResult x0 = r) : Met l yX11_isResult (wt yX11_isResult cX11_isResult 1 (some .boolean)) (rm 0 0) (CPre D cy A (ZC A K) (cnC nS nL) ad M0 [.int x0]) (QZ D cy A (cnC nS nL) ad r M0) 0 0 A := by
  refine tb_start [.int x0] [(0, .int x0)] RX11 rfl (by decide +kernel) (Nat.le_of_ble_eq_true rfl) rfl (fun p e s m args below meth c hx hb hr hml hown hts hlk hW hK hZ ls hl => ?_)
  have hS : va_S A s.heap s.heap [] := va_S.rf
  unfold fX11_isResult at h
  refine lv_iload_n hx hb dX11_isResult_0 rfl (lv_at hl 0 rfl) ?_
  refine lv_sipush (v := (-999 : Int32)) hx hb dX11_isResult_1 (by decide) ?_
  refine lv_icmp_lt (tgt := 18) hx hb dX11_isResult_4 (by decide) (fun c1 => ?_) (fun c1 => ?_)
  · replace h := sh_t c1 h
    refine lv_iconst (v := (0 : Int32)) hx hb dX11_isResult_18 (by decide) ?_
    exact tb_zretP h hx hb hr hS hW hlk (by decide) dX11_isResult_19
  · replace h := sh_f c1 h
    refine lv_iload_n hx hb dX11_isResult_7 rfl (lv_at hl 0 rfl) ?_
    refine lv_sipush (v := (999 : Int32)) hx hb dX11_isResult_8 (by decide) ?_
    refine lv_icmp_gt (tgt := 18) hx hb dX11_isResult_11 (by decide) (fun c2 => ?_) (fun c2 => ?_)
    · replace h := sh_t c2 h
      refine lv_iconst (v := (0 : Int32)) hx hb dX11_isResult_18 (by decide) ?_
      exact tb_zretP h hx hb hr hS hW hlk (by decide) dX11_isResult_19
    · replace h := sh_f c2 h
      refine lv_iconst (v := (1 : Int32)) hx hb dX11_isResult_14 (by decide) ?_
      refine lv_goto (tgt := 19) hx hb dX11_isResult_15 (by decide) ?_
      exact tb_zretP h hx hb hr hS hW hlk (by decide) dX11_isResult_19
def fX11_mayCome (x0 : Int32) (x1 : Int32) (x2 : Int32) : Int32 :=
  if x0 = (1 : Int32) then (nm (fX11_isResult x1) fun b2 => if b2 = 0 then ((0 : Int32)) else (if x2 < (1 : Int32) then ((0 : Int32)) else (if (999 : Int32) < x2 then ((0 : Int32)) else ((1 : Int32))))) else if x0 = (2 : Int32) then (if x0 = 0 then ((1 : Int32)) else (if x0 = (2 : Int32) then ((1 : Int32)) else (if x0 = (4 : Int32) then ((1 : Int32)) else ((0 : Int32))))) else if x0 = (3 : Int32) then (nm (fX11_isResult x1) fun b11 => if b11 = 0 then ((0 : Int32)) else (if x2 < 0 then ((0 : Int32)) else (if (799 : Int32) < x2 then ((0 : Int32)) else ((1 : Int32))))) else if x0 = (4 : Int32) then (if x0 = 0 then ((1 : Int32)) else (if x0 = (2 : Int32) then ((1 : Int32)) else (if x0 = (4 : Int32) then ((1 : Int32)) else ((0 : Int32))))) else if x0 = (5 : Int32) then (if x1 < (1 : Int32) then ((0 : Int32)) else (if (9 : Int32) < x1 then ((0 : Int32)) else ((1 : Int32)))) else if x0 = 0 then ((1 : Int32)) else (if x0 = (2 : Int32) then ((1 : Int32)) else (if x0 = (4 : Int32) then ((1 : Int32)) else ((0 : Int32))))
set_option maxHeartbeats 4000000 in
set_option maxRecDepth 100000 in
theorem mX11_mayCome {l : Launch} {D : va_G} {cy : Nat → ClassId} {A : Nat → Prop} {K : KC} {nS nL : Nat} {ad : Nat → Nat → Nat} (hZk : ZOK A (ZC A K)) (x0 : Int32) (x1 : Int32) (x2 : Int32) (M0 : Mem) (r : Int32) (h : fX11_mayCome x0 x1 x2 = r) : Met l yX11_mayCome (wt yX11_mayCome cX11_mayCome 3 (some .boolean)) (rm 1 20) (CPre D cy A (ZC A K) (cnC nS nL) ad M0 [.int x0, .int x1, .int x2]) (QZ D cy A (cnC nS nL) ad r M0) 0 0 A := by
  refine tb_start [.int x0, .int x1, .int x2] [(0, .int x0), (1, .int x1), (2, .int x2)] RX11 rfl (by decide +kernel) (Nat.le_of_ble_eq_true rfl) rfl (fun p e s m args below meth c hx hb hr hml hown hts hlk hW hK hZ ls hl => ?_)
  have hS : va_S A s.heap s.heap [] := va_S.rf
  unfold fX11_mayCome at h
  refine lv_iload_n hx hb dX11_mayCome_0 rfl (lv_at hl 0 rfl) ?_
  by_cases c1 : x0 = (1 : Int32)
  · replace h := sh_t c1 h
    refine lv_tableIn (off := 35) (tgt := 36) hx hb dX11_mayCome_1 (by rw [c1]; decide) (by rw [c1]; decide) (by rw [c1]; rfl) (by decide) ?_
    refine lv_iload_n hx hb dX11_mayCome_36 rfl (lv_at hl 1 rfl) ?_
    refine tb_cSZ hZk hx hb hml hown hts hK hZ hW hS [.int x1] (mX11_isResult (l := l) hZk x1 M0 (fX11_isResult x1) rfl) pmX11_isResult tw405 ⟨Nat.le_of_ble_eq_true rfl, Nat.le_of_ble_eq_true rfl⟩ rfl hl.1 (Nat.le_of_ble_eq_true rfl) ⟨Nat.le_refl _, Nat.le_refl _⟩ rfl dX11_mayCome_37 (fun H locs hW hS hzz => ?_)
    refine lv_topi (fun b2 eb2 => ?_)
    replace h := nm_a eb2 h
    have hzb2 : b2 = 0 ∨ b2 = 1 := by rw [eb2]; exact hzz
    refine lv_if_eq (tgt := 59) hx hb dX11_mayCome_40 (by decide) (fun c3 => ?_) (fun c3 => ?_)
    · replace h := sh_t c3 h
      refine lv_iconst (v := (0 : Int32)) hx hb dX11_mayCome_59 (by decide) ?_
      exact tb_zretP h hx hb hr hS hW hlk (by decide) dX11_mayCome_60
    · replace h := sh_f c3 h
      refine lv_iload_n hx hb dX11_mayCome_43 rfl (lv_at hl 2 rfl) ?_
      refine lv_iconst (v := (1 : Int32)) hx hb dX11_mayCome_44 (by decide) ?_
      refine lv_icmp_lt (tgt := 59) hx hb dX11_mayCome_45 (by decide) (fun c4 => ?_) (fun c4 => ?_)
      · replace h := sh_t c4 h
        refine lv_iconst (v := (0 : Int32)) hx hb dX11_mayCome_59 (by decide) ?_
        exact tb_zretP h hx hb hr hS hW hlk (by decide) dX11_mayCome_60
      · replace h := sh_f c4 h
        refine lv_iload_n hx hb dX11_mayCome_48 rfl (lv_at hl 2 rfl) ?_
        refine lv_sipush (v := (999 : Int32)) hx hb dX11_mayCome_49 (by decide) ?_
        refine lv_icmp_gt (tgt := 59) hx hb dX11_mayCome_52 (by decide) (fun c5 => ?_) (fun c5 => ?_)
        · replace h := sh_t c5 h
          refine lv_iconst (v := (0 : Int32)) hx hb dX11_mayCome_59 (by decide) ?_
          exact tb_zretP h hx hb hr hS hW hlk (by decide) dX11_mayCome_60
        · replace h := sh_f c5 h
          refine lv_iconst (v := (1 : Int32)) hx hb dX11_mayCome_55 (by decide) ?_
          refine lv_goto (tgt := 60) hx hb dX11_mayCome_56 (by decide) ?_
          exact tb_zretP h hx hb hr hS hW hlk (by decide) dX11_mayCome_60
  · replace h := sh_f c1 h
    by_cases c6 : x0 = (2 : Int32)
    · replace h := sh_t c6 h
      refine lv_tableIn (off := 101) (tgt := 102) hx hb dX11_mayCome_1 (by rw [c6]; decide) (by rw [c6]; decide) (by rw [c6]; rfl) (by decide) ?_
      refine lv_iload_n hx hb dX11_mayCome_102 rfl (lv_at hl 0 rfl) ?_
      refine lv_if_eq (tgt := 116) hx hb dX11_mayCome_103 (by decide) (fun c7 => ?_) (fun c7 => ?_)
      · replace h := sh_t c7 h
        refine lv_iconst (v := (1 : Int32)) hx hb dX11_mayCome_116 (by decide) ?_
        refine lv_goto (tgt := 121) hx hb dX11_mayCome_117 (by decide) ?_
        exact tb_zretP h hx hb hr hS hW hlk (by decide) dX11_mayCome_121
      · replace h := sh_f c7 h
        refine lv_iload_n hx hb dX11_mayCome_106 rfl (lv_at hl 0 rfl) ?_
        refine lv_iconst (v := (2 : Int32)) hx hb dX11_mayCome_107 (by decide) ?_
        refine lv_icmp_eq (tgt := 116) hx hb dX11_mayCome_108 (by decide) (fun c8 => ?_) (fun c8 => ?_)
        · replace h := sh_t c8 h
          refine lv_iconst (v := (1 : Int32)) hx hb dX11_mayCome_116 (by decide) ?_
          refine lv_goto (tgt := 121) hx hb dX11_mayCome_117 (by decide) ?_
          exact tb_zretP h hx hb hr hS hW hlk (by decide) dX11_mayCome_121
        · replace h := sh_f c8 h
          refine lv_iload_n hx hb dX11_mayCome_111 rfl (lv_at hl 0 rfl) ?_
          refine lv_iconst (v := (4 : Int32)) hx hb dX11_mayCome_112 (by decide) ?_
          refine lv_icmp_ne (tgt := 120) hx hb dX11_mayCome_113 (by decide) (fun c9 => ?_) (fun c9 => ?_)
          · replace h := sh_f c9 h
            refine lv_iconst (v := (0 : Int32)) hx hb dX11_mayCome_120 (by decide) ?_
            exact tb_zretP h hx hb hr hS hW hlk (by decide) dX11_mayCome_121
          · replace h := sh_t c9 h
            refine lv_iconst (v := (1 : Int32)) hx hb dX11_mayCome_116 (by decide) ?_
            refine lv_goto (tgt := 121) hx hb dX11_mayCome_117 (by decide) ?_
            exact tb_zretP h hx hb hr hS hW hlk (by decide) dX11_mayCome_121
    · replace h := sh_f c6 h
      by_cases c10 : x0 = (3 : Int32)
      · replace h := sh_t c10 h
        refine lv_tableIn (off := 60) (tgt := 61) hx hb dX11_mayCome_1 (by rw [c10]; decide) (by rw [c10]; decide) (by rw [c10]; rfl) (by decide) ?_
        refine lv_iload_n hx hb dX11_mayCome_61 rfl (lv_at hl 1 rfl) ?_
        refine tb_cSZ hZk hx hb hml hown hts hK hZ hW hS [.int x1] (mX11_isResult (l := l) hZk x1 M0 (fX11_isResult x1) rfl) pmX11_isResult tw405 ⟨Nat.le_of_ble_eq_true rfl, Nat.le_of_ble_eq_true rfl⟩ rfl hl.1 (Nat.le_of_ble_eq_true rfl) ⟨Nat.le_refl _, Nat.le_refl _⟩ rfl dX11_mayCome_62 (fun H locs hW hS hzz => ?_)
        refine lv_topi (fun b11 eb11 => ?_)
        replace h := nm_a eb11 h
        have hzb11 : b11 = 0 ∨ b11 = 1 := by rw [eb11]; exact hzz
        refine lv_if_eq (tgt := 83) hx hb dX11_mayCome_65 (by decide) (fun c12 => ?_) (fun c12 => ?_)
        · replace h := sh_t c12 h
          refine lv_iconst (v := (0 : Int32)) hx hb dX11_mayCome_83 (by decide) ?_
          exact tb_zretP h hx hb hr hS hW hlk (by decide) dX11_mayCome_84
        · replace h := sh_f c12 h
          refine lv_iload_n hx hb dX11_mayCome_68 rfl (lv_at hl 2 rfl) ?_
          refine lv_if_lt (tgt := 83) hx hb dX11_mayCome_69 (by decide) (fun c13 => ?_) (fun c13 => ?_)
          · replace h := sh_t c13 h
            refine lv_iconst (v := (0 : Int32)) hx hb dX11_mayCome_83 (by decide) ?_
            exact tb_zretP h hx hb hr hS hW hlk (by decide) dX11_mayCome_84
          · replace h := sh_f c13 h
            refine lv_iload_n hx hb dX11_mayCome_72 rfl (lv_at hl 2 rfl) ?_
            refine lv_sipush (v := (799 : Int32)) hx hb dX11_mayCome_73 (by decide) ?_
            refine lv_icmp_gt (tgt := 83) hx hb dX11_mayCome_76 (by decide) (fun c14 => ?_) (fun c14 => ?_)
            · replace h := sh_t c14 h
              refine lv_iconst (v := (0 : Int32)) hx hb dX11_mayCome_83 (by decide) ?_
              exact tb_zretP h hx hb hr hS hW hlk (by decide) dX11_mayCome_84
            · replace h := sh_f c14 h
              refine lv_iconst (v := (1 : Int32)) hx hb dX11_mayCome_79 (by decide) ?_
              refine lv_goto (tgt := 84) hx hb dX11_mayCome_80 (by decide) ?_
              exact tb_zretP h hx hb hr hS hW hlk (by decide) dX11_mayCome_84
      · replace h := sh_f c10 h
        by_cases c15 : x0 = (4 : Int32)
        · replace h := sh_t c15 h
          refine lv_tableIn (off := 101) (tgt := 102) hx hb dX11_mayCome_1 (by rw [c15]; decide) (by rw [c15]; decide) (by rw [c15]; rfl) (by decide) ?_
          refine lv_iload_n hx hb dX11_mayCome_102 rfl (lv_at hl 0 rfl) ?_
          refine lv_if_eq (tgt := 116) hx hb dX11_mayCome_103 (by decide) (fun c16 => ?_) (fun c16 => ?_)
          · replace h := sh_t c16 h
            refine lv_iconst (v := (1 : Int32)) hx hb dX11_mayCome_116 (by decide) ?_
            refine lv_goto (tgt := 121) hx hb dX11_mayCome_117 (by decide) ?_
            exact tb_zretP h hx hb hr hS hW hlk (by decide) dX11_mayCome_121
          · replace h := sh_f c16 h
            refine lv_iload_n hx hb dX11_mayCome_106 rfl (lv_at hl 0 rfl) ?_
            refine lv_iconst (v := (2 : Int32)) hx hb dX11_mayCome_107 (by decide) ?_
            refine lv_icmp_eq (tgt := 116) hx hb dX11_mayCome_108 (by decide) (fun c17 => ?_) (fun c17 => ?_)
            · replace h := sh_t c17 h
              refine lv_iconst (v := (1 : Int32)) hx hb dX11_mayCome_116 (by decide) ?_
              refine lv_goto (tgt := 121) hx hb dX11_mayCome_117 (by decide) ?_
              exact tb_zretP h hx hb hr hS hW hlk (by decide) dX11_mayCome_121
            · replace h := sh_f c17 h
              refine lv_iload_n hx hb dX11_mayCome_111 rfl (lv_at hl 0 rfl) ?_
              refine lv_iconst (v := (4 : Int32)) hx hb dX11_mayCome_112 (by decide) ?_
              refine lv_icmp_ne (tgt := 120) hx hb dX11_mayCome_113 (by decide) (fun c18 => ?_) (fun c18 => ?_)
              · replace h := sh_f c18 h
                refine lv_iconst (v := (0 : Int32)) hx hb dX11_mayCome_120 (by decide) ?_
                exact tb_zretP h hx hb hr hS hW hlk (by decide) dX11_mayCome_121
              · replace h := sh_t c18 h
                refine lv_iconst (v := (1 : Int32)) hx hb dX11_mayCome_116 (by decide) ?_
                refine lv_goto (tgt := 121) hx hb dX11_mayCome_117 (by decide) ?_
                exact tb_zretP h hx hb hr hS hW hlk (by decide) dX11_mayCome_121
        · replace h := sh_f c15 h
          by_cases c19 : x0 = (5 : Int32)
          · replace h := sh_t c19 h
            refine lv_tableIn (off := 84) (tgt := 85) hx hb dX11_mayCome_1 (by rw [c19]; decide) (by rw [c19]; decide) (by rw [c19]; rfl) (by decide) ?_
            refine lv_iload_n hx hb dX11_mayCome_85 rfl (lv_at hl 1 rfl) ?_
            refine lv_iconst (v := (1 : Int32)) hx hb dX11_mayCome_86 (by decide) ?_
            refine lv_icmp_lt (tgt := 100) hx hb dX11_mayCome_87 (by decide) (fun c20 => ?_) (fun c20 => ?_)
            · replace h := sh_t c20 h
              refine lv_iconst (v := (0 : Int32)) hx hb dX11_mayCome_100 (by decide) ?_
              exact tb_zretP h hx hb hr hS hW hlk (by decide) dX11_mayCome_101
            · replace h := sh_f c20 h
              refine lv_iload_n hx hb dX11_mayCome_90 rfl (lv_at hl 1 rfl) ?_
              refine lv_bipush (v := (9 : Int32)) hx hb dX11_mayCome_91 (by decide) ?_
              refine lv_icmp_gt (tgt := 100) hx hb dX11_mayCome_93 (by decide) (fun c21 => ?_) (fun c21 => ?_)
              · replace h := sh_t c21 h
                refine lv_iconst (v := (0 : Int32)) hx hb dX11_mayCome_100 (by decide) ?_
                exact tb_zretP h hx hb hr hS hW hlk (by decide) dX11_mayCome_101
              · replace h := sh_f c21 h
                refine lv_iconst (v := (1 : Int32)) hx hb dX11_mayCome_96 (by decide) ?_
                refine lv_goto (tgt := 101) hx hb dX11_mayCome_97 (by decide) ?_
                exact tb_zretP h hx hb hr hS hW hlk (by decide) dX11_mayCome_101
          · replace h := sh_f c19 h
            refine lv_tableOut (tgt := 102) hx hb dX11_mayCome_1 (sw_out x0 (by decide) (fun z h1 h2 => by
              rcases (show z = 1 ∨ z = 2 ∨ z = 3 ∨ z = 4 ∨ z = 5 by omega) with rfl | rfl | rfl | rfl | rfl <;> first | exact fun e => c1 (Int32.toInt_inj.mp (e.trans (by decide))) | exact fun e => c6 (Int32.toInt_inj.mp (e.trans (by decide))) | exact fun e => c10 (Int32.toInt_inj.mp (e.trans (by decide))) | exact fun e => c15 (Int32.toInt_inj.mp (e.trans (by decide))) | exact fun e => c19 (Int32.toInt_inj.mp (e.trans (by decide))))) (by decide) ?_
            refine lv_iload_n hx hb dX11_mayCome_102 rfl (lv_at hl 0 rfl) ?_
            refine lv_if_eq (tgt := 116) hx hb dX11_mayCome_103 (by decide) (fun c22 => ?_) (fun c22 => ?_)
            · replace h := sh_t c22 h
              refine lv_iconst (v := (1 : Int32)) hx hb dX11_mayCome_116 (by decide) ?_
              refine lv_goto (tgt := 121) hx hb dX11_mayCome_117 (by decide) ?_
              exact tb_zretP h hx hb hr hS hW hlk (by decide) dX11_mayCome_121
            · replace h := sh_f c22 h
              refine lv_iload_n hx hb dX11_mayCome_106 rfl (lv_at hl 0 rfl) ?_
              refine lv_iconst (v := (2 : Int32)) hx hb dX11_mayCome_107 (by decide) ?_
              refine lv_icmp_eq (tgt := 116) hx hb dX11_mayCome_108 (by decide) (fun c23 => ?_) (fun c23 => ?_)
              · replace h := sh_t c23 h
                refine lv_iconst (v := (1 : Int32)) hx hb dX11_mayCome_116 (by decide) ?_
                refine lv_goto (tgt := 121) hx hb dX11_mayCome_117 (by decide) ?_
                exact tb_zretP h hx hb hr hS hW hlk (by decide) dX11_mayCome_121
              · replace h := sh_f c23 h
                refine lv_iload_n hx hb dX11_mayCome_111 rfl (lv_at hl 0 rfl) ?_
                refine lv_iconst (v := (4 : Int32)) hx hb dX11_mayCome_112 (by decide) ?_
                refine lv_icmp_ne (tgt := 120) hx hb dX11_mayCome_113 (by decide) (fun c24 => ?_) (fun c24 => ?_)
                · replace h := sh_f c24 h
                  refine lv_iconst (v := (0 : Int32)) hx hb dX11_mayCome_120 (by decide) ?_
                  exact tb_zretP h hx hb hr hS hW hlk (by decide) dX11_mayCome_121
                · replace h := sh_t c24 h
                  refine lv_iconst (v := (1 : Int32)) hx hb dX11_mayCome_116 (by decide) ?_
                  refine lv_goto (tgt := 121) hx hb dX11_mayCome_117 (by decide) ?_
                  exact tb_zretP h hx hb hr hS hW hlk (by decide) dX11_mayCome_121
