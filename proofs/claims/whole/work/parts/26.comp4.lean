def fX11_falls (x1 : Int32) (x2 : Int32) (M0 : Mem) : Option (Int32 × Mem) :=
  bd (fX5_stoneAt x1 M0) fun o1 => oc o1 (some ((-1 : Int32), M0)) fun a2 => bE (fX9_work (0 : Int64) (0 : Int64) (-1 : Int64) M0) fun u3 M4 => bd (fX9_counting M4) fun g5 => bE (fX9_work (fX11_bit x1) (0 : Int64) (-1 : Int64) M4) fun u6 M7 => bd (fX9_counting M7) fun g8 => bd (fX11_nth (g5 &&& (g8 ^^^ (-1 : Int64))) x2) fun b9 => some (b9, M7)
set_option maxHeartbeats 4000000 in
set_option maxRecDepth 100000 in
theorem mX11_falls {l : Launch} {D : va_G} {cy : Nat → ClassId} {A : Nat → Prop} {K : KC} {nS nL : Nat} {ad : Nat → Nat → Nat} (hZk : ZOK A (ZC A K)) (x1 : Int32) (x2 : Int32) (M0 : Mem) (r : Int32) (M' : Mem) (h : fX11_falls x1 x2 M0 = some (r, M')) : Met l yX11_falls (wt yX11_falls cX11_falls 5 (some .int)) (rm 3 97) (CPre D cy A (ZC A K) (cnC nS nL) ad M0 [.ref (ad 11 0), .int x1, .int x2]) (QI D cy A (cnC nS nL) ad r M') 0 0 A := by
  refine tb_start [.ref (ad 11 0), .int x1, .int x2] [(0, .ref (ad 11 0)), (1, .int x1), (2, .int x2)] RX11 rfl (by decide +kernel) (Nat.le_of_ble_eq_true rfl) rfl (fun p e s m args below meth c hx hb hr hml hown hts hlk hW hK hZ ls hl => ?_)
  have hS : va_S A s.heap s.heap [] := va_S.rf
  unfold fX11_falls at h
  refine lv_aload_n hx hb dX11_falls_0 rfl (lv_at hl 0 rfl) ?_
  refine gtX11_10 hx hb hts hown hK hW cz11 dX11_falls_1 ?_
  refine lv_iload_n hx hb dX11_falls_4 rfl (lv_at hl 1 rfl) ?_
  replace h := bd_a h
  obtain ⟨o1, hco1, h⟩ := h
  refine tb_cVR hZk hx hb hml hown hts hK hZ hW hS [.int x1] (mX5_stoneAt (l := l) hZk x1 M0 o1 hco1) pmX5_stoneAt tw502 (Wd.recv hK hW (t := 5) (by decide) cz5 (C := RX5) (T := TX5) (N := 7) rfl) ⟨Nat.le_of_ble_eq_true rfl, Nat.le_of_ble_eq_true rfl⟩ rfl hl.1 (Nat.le_of_ble_eq_true rfl) ⟨Nat.le_refl _, Nat.le_refl _⟩ rfl dX11_falls_5 (fun H locs hW hS hrr => ?_)
  have ho1 := hrr
  refine tb_ifnonnull (tgt := 13) hx hb dX11_falls_8 (by decide) (fun a2 ea2 => ?_) (fun e0 => ?_)
  · replace h := oc_s ea2 h
    subst ea2
    have la2 := ho1 _ rfl
    refine lv_aload_n hx hb dX11_falls_13 rfl (lv_at hl 0 rfl) ?_
    refine gtX11_28 hx hb hts hown hK hW cz11 dX11_falls_14 ?_
    refine lv_lconst (v := (0 : Int64)) hx hb dX11_falls_17 (by decide) ?_
    refine lv_lconst (v := (0 : Int64)) hx hb dX11_falls_18 (by decide) ?_
    refine lv_ldc2 hx hb hown (hts _ tw724) dX11_falls_19 ?_
    replace h := bE_a h
    obtain ⟨u3, M4, hcu3, h⟩ := h
    refine tb_cVV hZk hx hb hml hown hts hK hZ hW hS [.long (0 : Int64), .long (0 : Int64), .long (-1 : Int64)] (mX9_work (l := l) hZk (0 : Int64) (0 : Int64) (-1 : Int64) M0 u3 M4 hcu3) pmX9_work tw625 (Wd.recv hK hW (t := 9) (by decide) cz9 (C := RX9) (T := TX9) (N := 4) rfl) ⟨Nat.le_of_ble_eq_true rfl, Nat.le_of_ble_eq_true rfl⟩ rfl hl.1 (Nat.le_of_ble_eq_true rfl) ⟨Nat.le_refl _, Nat.le_refl _⟩ rfl dX11_falls_22 (fun H locs hW hS => ?_)
    refine lv_aload_n hx hb dX11_falls_25 rfl (lv_at hl 0 rfl) ?_
    refine gtX11_28 hx hb hts hown hK hW cz11 dX11_falls_26 ?_
    replace h := bd_a h
    obtain ⟨g5, hcg5, h⟩ := h
    refine tb_cVL hZk hx hb hml hown hts hK hZ hW hS [] (mX9_counting (l := l) hZk M4 g5 hcg5) pmX9_counting tw733 (Wd.recv hK hW (t := 9) (by decide) cz9 (C := RX9) (T := TX9) (N := 4) rfl) ⟨Nat.le_of_ble_eq_true rfl, Nat.le_of_ble_eq_true rfl⟩ rfl hl.1 (Nat.le_of_ble_eq_true rfl) ⟨Nat.le_refl _, Nat.le_refl _⟩ rfl dX11_falls_29 (fun H locs hW hS => ?_)
    refine lv_lstore_n (lv' := [(3, .long g5), (0, .ref (ad 11 0)), (1, .int x1), (2, .int x2)]) hx hb dX11_falls_32 rfl hl (by decide) rfl (fun ls hl => ?_)
    refine lv_aload_n hx hb dX11_falls_33 rfl (lv_at hl 1 rfl) ?_
    refine gtX11_28 hx hb hts hown hK hW cz11 dX11_falls_34 ?_
    refine lv_iload_n hx hb dX11_falls_37 rfl (lv_at hl 2 rfl) ?_
    refine tb_cSL hZk hx hb hml hown hts hK hZ hW hS [.int x1] (mX11_bit (l := l) hZk x1 M4 (fX11_bit x1) rfl) pmX11_bit tw624 ⟨Nat.le_of_ble_eq_true rfl, Nat.le_of_ble_eq_true rfl⟩ rfl hl.1 (Nat.le_of_ble_eq_true rfl) ⟨Nat.le_refl _, Nat.le_refl _⟩ rfl dX11_falls_38 (fun H locs hW hS => ?_)
    refine lv_lconst (v := (0 : Int64)) hx hb dX11_falls_41 (by decide) ?_
    refine lv_ldc2 hx hb hown (hts _ tw724) dX11_falls_42 ?_
    replace h := bE_a h
    obtain ⟨u6, M7, hcu6, h⟩ := h
    refine tb_cVV hZk hx hb hml hown hts hK hZ hW hS [.long (fX11_bit x1), .long (0 : Int64), .long (-1 : Int64)] (mX9_work (l := l) hZk (fX11_bit x1) (0 : Int64) (-1 : Int64) M4 u6 M7 hcu6) pmX9_work tw625 (Wd.recv hK hW (t := 9) (by decide) cz9 (C := RX9) (T := TX9) (N := 4) rfl) ⟨Nat.le_of_ble_eq_true rfl, Nat.le_of_ble_eq_true rfl⟩ rfl hl.1 (Nat.le_of_ble_eq_true rfl) ⟨Nat.le_refl _, Nat.le_refl _⟩ rfl dX11_falls_45 (fun H locs hW hS => ?_)
    refine lv_lload_n hx hb dX11_falls_48 rfl (lv_at hl 0 rfl) ?_
    refine lv_aload_n hx hb dX11_falls_49 rfl (lv_at hl 1 rfl) ?_
    refine gtX11_28 hx hb hts hown hK hW cz11 dX11_falls_50 ?_
    replace h := bd_a h
    obtain ⟨g8, hcg8, h⟩ := h
    refine tb_cVL hZk hx hb hml hown hts hK hZ hW hS [] (mX9_counting (l := l) hZk M7 g8 hcg8) pmX9_counting tw733 (Wd.recv hK hW (t := 9) (by decide) cz9 (C := RX9) (T := TX9) (N := 4) rfl) ⟨Nat.le_of_ble_eq_true rfl, Nat.le_of_ble_eq_true rfl⟩ rfl hl.1 (Nat.le_of_ble_eq_true rfl) ⟨Nat.le_refl _, Nat.le_refl _⟩ rfl dX11_falls_53 (fun H locs hW hS => ?_)
    refine lv_ldc2 hx hb hown (hts _ tw724) dX11_falls_56 ?_
    refine lv_lxor hx hb dX11_falls_59 ?_
    refine lv_land hx hb dX11_falls_60 ?_
    refine lv_iload_n hx hb dX11_falls_61 rfl (lv_at hl 3 rfl) ?_
    replace h := bd_a h
    obtain ⟨b9, hcb9, h⟩ := h
    refine tb_cSI hZk hx hb hml hown hts hK hZ hW hS [.long (g5 &&& (g8 ^^^ (-1 : Int64))), .int x2] (mX11_nth (l := l) hZk (g5 &&& (g8 ^^^ (-1 : Int64))) x2 M7 b9 hcb9) pmX11_nth tw737 ⟨Nat.le_of_ble_eq_true rfl, Nat.le_of_ble_eq_true rfl⟩ rfl hl.1 (Nat.le_of_ble_eq_true rfl) ⟨Nat.le_refl _, Nat.le_refl _⟩ rfl dX11_falls_62 (fun H locs hW hS => ?_)
    exact tb_iretE h hx hb hr hS hW hlk dX11_falls_65
  · replace h := oc_n e0 h
    subst e0
    refine lv_iconst (v := (-1 : Int32)) hx hb dX11_falls_11 (by decide) ?_
    exact tb_iretE h hx hb hr hS hW hlk dX11_falls_12
def fX11_turned (x1 : Int32) (x2 : Int32) (M0 : Mem) : Option (Int32 × Mem) :=
  bd (fX5_stoneAt x1 M0) fun o1 => oc o1 (some ((-1 : Int32), M0)) fun a2 => bE (fX9_work (0 : Int64) (0 : Int64) (-1 : Int64) M0) fun u3 M4 => bd (fX9_sayingYes M4) fun g5 => bE (fX9_work (fX11_bit x1) (0 : Int64) (-1 : Int64) M4) fun u6 M7 => bd (fX9_sayingYes M7) fun g8 => bd (fX11_nth (g5 ^^^ g8) x2) fun b9 => some (b9, M7)
set_option maxHeartbeats 4000000 in
set_option maxRecDepth 100000 in
theorem mX11_turned {l : Launch} {D : va_G} {cy : Nat → ClassId} {A : Nat → Prop} {K : KC} {nS nL : Nat} {ad : Nat → Nat → Nat} (hZk : ZOK A (ZC A K)) (x1 : Int32) (x2 : Int32) (M0 : Mem) (r : Int32) (M' : Mem) (h : fX11_turned x1 x2 M0 = some (r, M')) : Met l yX11_turned (wt yX11_turned cX11_turned 5 (some .int)) (rm 3 97) (CPre D cy A (ZC A K) (cnC nS nL) ad M0 [.ref (ad 11 0), .int x1, .int x2]) (QI D cy A (cnC nS nL) ad r M') 0 0 A := by
  refine tb_start [.ref (ad 11 0), .int x1, .int x2] [(0, .ref (ad 11 0)), (1, .int x1), (2, .int x2)] RX11 rfl (by decide +kernel) (Nat.le_of_ble_eq_true rfl) rfl (fun p e s m args below meth c hx hb hr hml hown hts hlk hW hK hZ ls hl => ?_)
  have hS : va_S A s.heap s.heap [] := va_S.rf
  unfold fX11_turned at h
  refine lv_aload_n hx hb dX11_turned_0 rfl (lv_at hl 0 rfl) ?_
  refine gtX11_10 hx hb hts hown hK hW cz11 dX11_turned_1 ?_
  refine lv_iload_n hx hb dX11_turned_4 rfl (lv_at hl 1 rfl) ?_
  replace h := bd_a h
  obtain ⟨o1, hco1, h⟩ := h
  refine tb_cVR hZk hx hb hml hown hts hK hZ hW hS [.int x1] (mX5_stoneAt (l := l) hZk x1 M0 o1 hco1) pmX5_stoneAt tw502 (Wd.recv hK hW (t := 5) (by decide) cz5 (C := RX5) (T := TX5) (N := 7) rfl) ⟨Nat.le_of_ble_eq_true rfl, Nat.le_of_ble_eq_true rfl⟩ rfl hl.1 (Nat.le_of_ble_eq_true rfl) ⟨Nat.le_refl _, Nat.le_refl _⟩ rfl dX11_turned_5 (fun H locs hW hS hrr => ?_)
  have ho1 := hrr
  refine tb_ifnonnull (tgt := 13) hx hb dX11_turned_8 (by decide) (fun a2 ea2 => ?_) (fun e0 => ?_)
  · replace h := oc_s ea2 h
    subst ea2
    have la2 := ho1 _ rfl
    refine lv_aload_n hx hb dX11_turned_13 rfl (lv_at hl 0 rfl) ?_
    refine gtX11_28 hx hb hts hown hK hW cz11 dX11_turned_14 ?_
    refine lv_lconst (v := (0 : Int64)) hx hb dX11_turned_17 (by decide) ?_
    refine lv_lconst (v := (0 : Int64)) hx hb dX11_turned_18 (by decide) ?_
    refine lv_ldc2 hx hb hown (hts _ tw724) dX11_turned_19 ?_
    replace h := bE_a h
    obtain ⟨u3, M4, hcu3, h⟩ := h
    refine tb_cVV hZk hx hb hml hown hts hK hZ hW hS [.long (0 : Int64), .long (0 : Int64), .long (-1 : Int64)] (mX9_work (l := l) hZk (0 : Int64) (0 : Int64) (-1 : Int64) M0 u3 M4 hcu3) pmX9_work tw625 (Wd.recv hK hW (t := 9) (by decide) cz9 (C := RX9) (T := TX9) (N := 4) rfl) ⟨Nat.le_of_ble_eq_true rfl, Nat.le_of_ble_eq_true rfl⟩ rfl hl.1 (Nat.le_of_ble_eq_true rfl) ⟨Nat.le_refl _, Nat.le_refl _⟩ rfl dX11_turned_22 (fun H locs hW hS => ?_)
    refine lv_aload_n hx hb dX11_turned_25 rfl (lv_at hl 0 rfl) ?_
    refine gtX11_28 hx hb hts hown hK hW cz11 dX11_turned_26 ?_
    replace h := bd_a h
    obtain ⟨g5, hcg5, h⟩ := h
    refine tb_cVL hZk hx hb hml hown hts hK hZ hW hS [] (mX9_sayingYes (l := l) hZk M4 g5 hcg5) pmX9_sayingYes tw745 (Wd.recv hK hW (t := 9) (by decide) cz9 (C := RX9) (T := TX9) (N := 4) rfl) ⟨Nat.le_of_ble_eq_true rfl, Nat.le_of_ble_eq_true rfl⟩ rfl hl.1 (Nat.le_of_ble_eq_true rfl) ⟨Nat.le_refl _, Nat.le_refl _⟩ rfl dX11_turned_29 (fun H locs hW hS => ?_)
    refine lv_lstore_n (lv' := [(3, .long g5), (0, .ref (ad 11 0)), (1, .int x1), (2, .int x2)]) hx hb dX11_turned_32 rfl hl (by decide) rfl (fun ls hl => ?_)
    refine lv_aload_n hx hb dX11_turned_33 rfl (lv_at hl 1 rfl) ?_
    refine gtX11_28 hx hb hts hown hK hW cz11 dX11_turned_34 ?_
    refine lv_iload_n hx hb dX11_turned_37 rfl (lv_at hl 2 rfl) ?_
    refine tb_cSL hZk hx hb hml hown hts hK hZ hW hS [.int x1] (mX11_bit (l := l) hZk x1 M4 (fX11_bit x1) rfl) pmX11_bit tw624 ⟨Nat.le_of_ble_eq_true rfl, Nat.le_of_ble_eq_true rfl⟩ rfl hl.1 (Nat.le_of_ble_eq_true rfl) ⟨Nat.le_refl _, Nat.le_refl _⟩ rfl dX11_turned_38 (fun H locs hW hS => ?_)
    refine lv_lconst (v := (0 : Int64)) hx hb dX11_turned_41 (by decide) ?_
    refine lv_ldc2 hx hb hown (hts _ tw724) dX11_turned_42 ?_
    replace h := bE_a h
    obtain ⟨u6, M7, hcu6, h⟩ := h
    refine tb_cVV hZk hx hb hml hown hts hK hZ hW hS [.long (fX11_bit x1), .long (0 : Int64), .long (-1 : Int64)] (mX9_work (l := l) hZk (fX11_bit x1) (0 : Int64) (-1 : Int64) M4 u6 M7 hcu6) pmX9_work tw625 (Wd.recv hK hW (t := 9) (by decide) cz9 (C := RX9) (T := TX9) (N := 4) rfl) ⟨Nat.le_of_ble_eq_true rfl, Nat.le_of_ble_eq_true rfl⟩ rfl hl.1 (Nat.le_of_ble_eq_true rfl) ⟨Nat.le_refl _, Nat.le_refl _⟩ rfl dX11_turned_45 (fun H locs hW hS => ?_)
    refine lv_lload_n hx hb dX11_turned_48 rfl (lv_at hl 0 rfl) ?_
    refine lv_aload_n hx hb dX11_turned_49 rfl (lv_at hl 1 rfl) ?_
    refine gtX11_28 hx hb hts hown hK hW cz11 dX11_turned_50 ?_
    replace h := bd_a h
    obtain ⟨g8, hcg8, h⟩ := h
    refine tb_cVL hZk hx hb hml hown hts hK hZ hW hS [] (mX9_sayingYes (l := l) hZk M7 g8 hcg8) pmX9_sayingYes tw745 (Wd.recv hK hW (t := 9) (by decide) cz9 (C := RX9) (T := TX9) (N := 4) rfl) ⟨Nat.le_of_ble_eq_true rfl, Nat.le_of_ble_eq_true rfl⟩ rfl hl.1 (Nat.le_of_ble_eq_true rfl) ⟨Nat.le_refl _, Nat.le_refl _⟩ rfl dX11_turned_53 (fun H locs hW hS => ?_)
    refine lv_lxor hx hb dX11_turned_56 ?_
    refine lv_iload_n hx hb dX11_turned_57 rfl (lv_at hl 3 rfl) ?_
    replace h := bd_a h
    obtain ⟨b9, hcb9, h⟩ := h
    refine tb_cSI hZk hx hb hml hown hts hK hZ hW hS [.long (g5 ^^^ g8), .int x2] (mX11_nth (l := l) hZk (g5 ^^^ g8) x2 M7 b9 hcb9) pmX11_nth tw737 ⟨Nat.le_of_ble_eq_true rfl, Nat.le_of_ble_eq_true rfl⟩ rfl hl.1 (Nat.le_of_ble_eq_true rfl) ⟨Nat.le_refl _, Nat.le_refl _⟩ rfl dX11_turned_58 (fun H locs hW hS => ?_)
    exact tb_iretE h hx hb hr hS hW hlk dX11_turned_61
  · replace h := oc_n e0 h
    subst e0
    refine lv_iconst (v := (-1 : Int32)) hx hb dX11_turned_11 (by decide) ?_
    exact tb_iretE h hx hb hr hS hW hlk dX11_turned_12
def fX11_hangs (x1 : Int32) (M0 : Mem) : Option (Int32 × Mem) :=
  bd (fX5_stoneAt x1 M0) fun o1 => oc o1 (some ((-1 : Int32), M0)) fun a2 => if (mgI M0 801 a2 0) = (3 : Int32) then (bE (fX9_fewestThatTurn (some a2) M0) fun g4 M5 => if (lg_cmp g4 (0 : Int64)) = 0 then (some ((-2 : Int32), M5)) else (some ((fJ13_bitCount_95d88 g4), M5))) else (some ((-1 : Int32), M0))
set_option maxHeartbeats 4000000 in
set_option maxRecDepth 100000 in
theorem mX11_hangs {l : Launch} {D : va_G} {cy : Nat → ClassId} {A : Nat → Prop} {K : KC} {nS nL : Nat} {ad : Nat → Nat → Nat} (hZk : ZOK A (ZC A K)) (x1 : Int32) (M0 : Mem) (r : Int32) (M' : Mem) (h : fX11_hangs x1 M0 = some (r, M')) : Met l yX11_hangs (wt yX11_hangs cX11_hangs 5 (some .int)) (rm 5 147) (CPre D cy A (ZC A K) (cnC nS nL) ad M0 [.ref (ad 11 0), .int x1]) (QI D cy A (cnC nS nL) ad r M') 0 0 A := by
  refine tb_start [.ref (ad 11 0), .int x1] [(0, .ref (ad 11 0)), (1, .int x1)] RX11 rfl (by decide +kernel) (Nat.le_of_ble_eq_true rfl) rfl (fun p e s m args below meth c hx hb hr hml hown hts hlk hW hK hZ ls hl => ?_)
  have hS : va_S A s.heap s.heap [] := va_S.rf
  unfold fX11_hangs at h
  refine lv_aload_n hx hb dX11_hangs_0 rfl (lv_at hl 0 rfl) ?_
  refine gtX11_10 hx hb hts hown hK hW cz11 dX11_hangs_1 ?_
  refine lv_iload_n hx hb dX11_hangs_4 rfl (lv_at hl 1 rfl) ?_
  replace h := bd_a h
  obtain ⟨o1, hco1, h⟩ := h
  refine tb_cVR hZk hx hb hml hown hts hK hZ hW hS [.int x1] (mX5_stoneAt (l := l) hZk x1 M0 o1 hco1) pmX5_stoneAt tw502 (Wd.recv hK hW (t := 5) (by decide) cz5 (C := RX5) (T := TX5) (N := 7) rfl) ⟨Nat.le_of_ble_eq_true rfl, Nat.le_of_ble_eq_true rfl⟩ rfl hl.1 (Nat.le_of_ble_eq_true rfl) ⟨Nat.le_refl _, Nat.le_refl _⟩ rfl dX11_hangs_5 (fun H locs hW hS hrr => ?_)
  have ho1 := hrr
  refine tb_astore_n (lv' := [(2, rv (ad 8) o1), (0, .ref (ad 11 0)), (1, .int x1)]) hx hb dX11_hangs_8 rfl hl (by decide) rfl (fun ls hl => ?_)
  refine tb_aload_n hx hb dX11_hangs_9 rfl (lv_at hl 0 rfl) ?_
  refine tb_ifnull (tgt := 21) hx hb dX11_hangs_10 (by decide) (fun e0 => ?_) (fun a2 ea2 => ?_)
  · replace h := oc_n e0 h
    subst e0
    refine lv_iconst (v := (-1 : Int32)) hx hb dX11_hangs_21 (by decide) ?_
    exact tb_iretE h hx hb hr hS hW hlk dX11_hangs_22
  · replace h := oc_s ea2 h
    subst ea2
    have la2 := ho1 _ rfl
    refine lv_aload_n hx hb dX11_hangs_13 rfl (lv_at hl 0 rfl) ?_
    refine gtX11_103 hx hb hts hown hK hW la2 dX11_hangs_14 ?_
    refine lv_iconst (v := (3 : Int32)) hx hb dX11_hangs_17 (by decide) ?_
    refine lv_icmp_eq (tgt := 23) hx hb dX11_hangs_18 (by decide) (fun c3 => ?_) (fun c3 => ?_)
    · replace h := sh_t c3 h
      refine lv_aload_n hx hb dX11_hangs_23 rfl (lv_at hl 1 rfl) ?_
      refine gtX11_28 hx hb hts hown hK hW cz11 dX11_hangs_24 ?_
      refine lv_aload_n hx hb dX11_hangs_27 rfl (lv_at hl 0 rfl) ?_
      replace h := bE_a h
      obtain ⟨g4, M5, hcg4, h⟩ := h
      refine tb_cVL hZk hx hb hml hown hts hK hZ hW hS [.ref (ad 8 a2)] (mX9_fewestThatTurn (l := l) hZk (some a2) M0 (fun z hz => Option.some.inj hz ▸ la2) g4 M5 hcg4) pmX9_fewestThatTurn tw753 (Wd.recv hK hW (t := 9) (by decide) cz9 (C := RX9) (T := TX9) (N := 4) rfl) ⟨Nat.le_of_ble_eq_true rfl, Nat.le_of_ble_eq_true rfl⟩ rfl hl.1 (Nat.le_of_ble_eq_true rfl) ⟨Nat.le_refl _, Nat.le_refl _⟩ rfl dX11_hangs_28 (fun H locs hW hS => ?_)
      refine lv_lstore_n (lv' := [(3, .long g4), (2, .ref (ad 8 a2)), (0, .ref (ad 11 0)), (1, .int x1)]) hx hb dX11_hangs_31 rfl hl (by decide) rfl (fun ls hl => ?_)
      refine lv_lload_n hx hb dX11_hangs_32 rfl (lv_at hl 0 rfl) ?_
      refine lv_lconst (v := (0 : Int64)) hx hb dX11_hangs_33 (by decide) ?_
      refine W.lcmp hx hb dX11_hangs_34 ?_
      refine lv_if_ne (tgt := 43) hx hb dX11_hangs_35 (by decide) (fun c6 => ?_) (fun c6 => ?_)
      · replace h := sh_f c6 h
        refine lv_lload_n hx hb dX11_hangs_43 rfl (lv_at hl 0 rfl) ?_
        refine tb_cSI hZk hx hb hml hown hts hK hZ hW hS [.long g4] (mJ13_bitCount_95d88 (l := l) hZk g4 M5 (fJ13_bitCount_95d88 g4) rfl) pmJ13_bitCount_95d88 tw662 ⟨Nat.le_of_ble_eq_true rfl, Nat.le_of_ble_eq_true rfl⟩ rfl hl.1 (Nat.le_of_ble_eq_true rfl) ⟨Nat.le_refl _, Nat.le_refl _⟩ rfl dX11_hangs_44 (fun H locs hW hS => ?_)
        exact tb_iretE h hx hb hr hS hW hlk dX11_hangs_47
      · replace h := sh_t c6 h
        refine lv_bipush (v := (-2 : Int32)) hx hb dX11_hangs_38 (by decide) ?_
        refine lv_goto (tgt := 47) hx hb dX11_hangs_40 (by decide) ?_
        exact tb_iretE h hx hb hr hS hW hlk dX11_hangs_47
    · replace h := sh_f c3 h
      refine lv_iconst (v := (-1 : Int32)) hx hb dX11_hangs_21 (by decide) ?_
      exact tb_iretE h hx hb hr hS hW hlk dX11_hangs_22
def fX11_hung (x1 : Int32) (M0 : Mem) : Option (Int64 × Mem) :=
  bd (fX5_stoneAt x1 M0) fun o1 => oc o1 (some ((-1 : Int64), M0)) fun a2 => if (mgI M0 801 a2 0) = (3 : Int32) then (bE (fX9_fewestThatTurn (some a2) M0) fun g4 M5 => if (lg_cmp g4 (0 : Int64)) = 0 then (some ((-2 : Int64), M5)) else (some (g4, M5))) else (some ((-1 : Int64), M0))
set_option maxHeartbeats 4000000 in
set_option maxRecDepth 100000 in
theorem mX11_hung {l : Launch} {D : va_G} {cy : Nat → ClassId} {A : Nat → Prop} {K : KC} {nS nL : Nat} {ad : Nat → Nat → Nat} (hZk : ZOK A (ZC A K)) (x1 : Int32) (M0 : Mem) (r : Int64) (M' : Mem) (h : fX11_hung x1 M0 = some (r, M')) : Met l yX11_hung (wt yX11_hung cX11_hung 5 (some .long)) (rm 5 147) (CPre D cy A (ZC A K) (cnC nS nL) ad M0 [.ref (ad 11 0), .int x1]) (QL D cy A (cnC nS nL) ad r M') 0 0 A := by
  refine tb_start [.ref (ad 11 0), .int x1] [(0, .ref (ad 11 0)), (1, .int x1)] RX11 rfl (by decide +kernel) (Nat.le_of_ble_eq_true rfl) rfl (fun p e s m args below meth c hx hb hr hml hown hts hlk hW hK hZ ls hl => ?_)
  have hS : va_S A s.heap s.heap [] := va_S.rf
  unfold fX11_hung at h
  refine lv_aload_n hx hb dX11_hung_0 rfl (lv_at hl 0 rfl) ?_
  refine gtX11_10 hx hb hts hown hK hW cz11 dX11_hung_1 ?_
  refine lv_iload_n hx hb dX11_hung_4 rfl (lv_at hl 1 rfl) ?_
  replace h := bd_a h
  obtain ⟨o1, hco1, h⟩ := h
  refine tb_cVR hZk hx hb hml hown hts hK hZ hW hS [.int x1] (mX5_stoneAt (l := l) hZk x1 M0 o1 hco1) pmX5_stoneAt tw502 (Wd.recv hK hW (t := 5) (by decide) cz5 (C := RX5) (T := TX5) (N := 7) rfl) ⟨Nat.le_of_ble_eq_true rfl, Nat.le_of_ble_eq_true rfl⟩ rfl hl.1 (Nat.le_of_ble_eq_true rfl) ⟨Nat.le_refl _, Nat.le_refl _⟩ rfl dX11_hung_5 (fun H locs hW hS hrr => ?_)
  have ho1 := hrr
  refine tb_astore_n (lv' := [(2, rv (ad 8) o1), (0, .ref (ad 11 0)), (1, .int x1)]) hx hb dX11_hung_8 rfl hl (by decide) rfl (fun ls hl => ?_)
  refine tb_aload_n hx hb dX11_hung_9 rfl (lv_at hl 0 rfl) ?_
  refine tb_ifnull (tgt := 21) hx hb dX11_hung_10 (by decide) (fun e0 => ?_) (fun a2 ea2 => ?_)
  · replace h := oc_n e0 h
    subst e0
    refine lv_ldc2 hx hb hown (hts _ tw724) dX11_hung_21 ?_
    exact tb_lretE h hx hb hr hS hW hlk dX11_hung_24
  · replace h := oc_s ea2 h
    subst ea2
    have la2 := ho1 _ rfl
    refine lv_aload_n hx hb dX11_hung_13 rfl (lv_at hl 0 rfl) ?_
    refine gtX11_103 hx hb hts hown hK hW la2 dX11_hung_14 ?_
    refine lv_iconst (v := (3 : Int32)) hx hb dX11_hung_17 (by decide) ?_
    refine lv_icmp_eq (tgt := 25) hx hb dX11_hung_18 (by decide) (fun c3 => ?_) (fun c3 => ?_)
    · replace h := sh_t c3 h
      refine lv_aload_n hx hb dX11_hung_25 rfl (lv_at hl 1 rfl) ?_
      refine gtX11_28 hx hb hts hown hK hW cz11 dX11_hung_26 ?_
      refine lv_aload_n hx hb dX11_hung_29 rfl (lv_at hl 0 rfl) ?_
      replace h := bE_a h
      obtain ⟨g4, M5, hcg4, h⟩ := h
      refine tb_cVL hZk hx hb hml hown hts hK hZ hW hS [.ref (ad 8 a2)] (mX9_fewestThatTurn (l := l) hZk (some a2) M0 (fun z hz => Option.some.inj hz ▸ la2) g4 M5 hcg4) pmX9_fewestThatTurn tw753 (Wd.recv hK hW (t := 9) (by decide) cz9 (C := RX9) (T := TX9) (N := 4) rfl) ⟨Nat.le_of_ble_eq_true rfl, Nat.le_of_ble_eq_true rfl⟩ rfl hl.1 (Nat.le_of_ble_eq_true rfl) ⟨Nat.le_refl _, Nat.le_refl _⟩ rfl dX11_hung_30 (fun H locs hW hS => ?_)
      refine lv_lstore_n (lv' := [(3, .long g4), (2, .ref (ad 8 a2)), (0, .ref (ad 11 0)), (1, .int x1)]) hx hb dX11_hung_33 rfl hl (by decide) rfl (fun ls hl => ?_)
      refine lv_lload_n hx hb dX11_hung_34 rfl (lv_at hl 0 rfl) ?_
      refine lv_lconst (v := (0 : Int64)) hx hb dX11_hung_35 (by decide) ?_
      refine W.lcmp hx hb dX11_hung_36 ?_
      refine lv_if_ne (tgt := 46) hx hb dX11_hung_37 (by decide) (fun c6 => ?_) (fun c6 => ?_)
      · replace h := sh_f c6 h
        refine lv_lload_n hx hb dX11_hung_46 rfl (lv_at hl 0 rfl) ?_
        exact tb_lretE h hx hb hr hS hW hlk dX11_hung_47
      · replace h := sh_t c6 h
        refine lv_ldc2 hx hb hown (hts _ tw776) dX11_hung_40 ?_
        refine lv_goto (tgt := 47) hx hb dX11_hung_43 (by decide) ?_
        exact tb_lretE h hx hb hr hS hW hlk dX11_hung_47
    · replace h := sh_f c3 h
      refine lv_ldc2 hx hb hown (hts _ tw724) dX11_hung_21 ?_
      exact tb_lretE h hx hb hr hS hW hlk dX11_hung_24
def fX11_seed (x1 : Int32) (M0 : Mem) : Option (Int32 × Mem) :=
  nm (mgI M0 302 0 0) fun v1 => nm (msI M0 302 0 0 x1) fun M2 => some (v1, M2)
set_option maxHeartbeats 4000000 in
set_option maxRecDepth 100000 in
theorem mX11_seed {l : Launch} {D : va_G} {cy : Nat → ClassId} {A : Nat → Prop} {K : KC} {nS nL : Nat} {ad : Nat → Nat → Nat} (hZk : ZOK A (ZC A K)) (x1 : Int32) (M0 : Mem) (r : Int32) (M' : Mem) (h : fX11_seed x1 M0 = some (r, M')) : Met l yX11_seed (wt yX11_seed cX11_seed 3 (some .int)) (rm 0 0) (CPre D cy A (ZC A K) (cnC nS nL) ad M0 [.ref (ad 11 0), .int x1]) (QI D cy A (cnC nS nL) ad r M') 0 0 A := by
  refine tb_start [.ref (ad 11 0), .int x1] [(0, .ref (ad 11 0)), (1, .int x1)] RX11 rfl (by decide +kernel) (Nat.le_of_ble_eq_true rfl) rfl (fun p e s m args below meth c hx hb hr hml hown hts hlk hW hK hZ ls hl => ?_)
  have hS : va_S A s.heap s.heap [] := va_S.rf
  unfold fX11_seed at h
  refine lv_aload_n hx hb dX11_seed_0 rfl (lv_at hl 0 rfl) ?_
  refine gtX11_37 hx hb hts hown hK hW cz11 dX11_seed_1 ?_
  refine gtX11_237 hx hb hts hown hK hW cz3 dX11_seed_4 ?_
  refine lv_topi (fun v1 ev1 => ?_)
  replace h := nm_a ev1 h
  refine lv_istore_n (lv' := [(2, .int v1), (0, .ref (ad 11 0)), (1, .int x1)]) hx hb dX11_seed_7 rfl hl (by decide) rfl (fun ls hl => ?_)
  refine lv_aload_n hx hb dX11_seed_8 rfl (lv_at hl 1 rfl) ?_
  refine gtX11_37 hx hb hts hown hK hW cz11 dX11_seed_9 ?_
  refine lv_iload_n hx hb dX11_seed_12 rfl (lv_at hl 2 rfl) ?_
  refine ptX11_237 hx hb hts hown hK hW hS cz3 dX11_seed_13 (fun H locs hW hS => ?_)
  obtain ⟨M2, eM2⟩ : ∃ y, y = msI M0 302 0 0 x1 := ⟨_, rfl⟩
  replace h := nm_a eM2 h
  rw [← eM2] at hW
  refine lv_iload_n hx hb dX11_seed_16 rfl (lv_at hl 0 rfl) ?_
  exact tb_iretE h hx hb hr hS hW hlk dX11_seed_17
def fX11_months_b32 (x1 : Int32) (k4 : Int32 → Int32 → Mem → Option (Int32 × Mem)) (i5 : Int32) (i6 : Int32) (M7 : Mem) : Option (Int32 × Mem) :=
  if x1 ≤ i6 then (some (i5, M7)) else (bE (fX3_goOneMonth M7) fun b9 M10 => nm (i5 + b9) fun v11 => nm (i6 + (1 : Int32)) fun v12 => k4 v11 v12 M10)
def fX11_months_l32 (x1 : Int32) : Nat → Int32 → Int32 → Mem → Option (Int32 × Mem)
  | 0, _, _, _ => none
  | n + 1, i5, i6, M7 => fX11_months_b32 x1 (fX11_months_l32 x1 n) i5 i6 M7
def fX11_months (x1 : Int32) (M0 : Mem) : Option (Int32 × Mem) :=
  if x1 < (1 : Int32) then (some ((-1 : Int32), M0)) else (if (24 : Int32) < x1 then (some ((-1 : Int32), M0)) else (if ((mgI M0 504 0 0) + x1) ≤ (599 : Int32) then (fX11_months_l32 x1 FU (0 : Int32) (0 : Int32) M0) else (some ((-1 : Int32), M0))))
set_option maxHeartbeats 4000000 in
set_option maxRecDepth 100000 in
theorem mX11_months {l : Launch} {D : va_G} {cy : Nat → ClassId} {A : Nat → Prop} {K : KC} {nS nL : Nat} {ad : Nat → Nat → Nat} (hZk : ZOK A (ZC A K)) (x1 : Int32) (M0 : Mem) (r : Int32) (M' : Mem) (h : fX11_months x1 M0 = some (r, M')) : Met l yX11_months (wt yX11_months cX11_months 4 (some .int)) (rm 9 223) (CPre D cy A (ZC A K) (cnC nS nL) ad M0 [.ref (ad 11 0), .int x1]) (QI D cy A (cnC nS nL) ad r M') 0 0 A := by
  refine tb_start [.ref (ad 11 0), .int x1] [(0, .ref (ad 11 0)), (1, .int x1)] RX11 rfl (by decide +kernel) (Nat.le_of_ble_eq_true rfl) rfl (fun p e s m args below meth c hx hb hr hml hown hts hlk hW hK hZ ls hl => ?_)
  have hS : va_S A s.heap s.heap [] := va_S.rf
  unfold fX11_months at h
  refine lv_iload_n hx hb dX11_months_0 rfl (lv_at hl 1 rfl) ?_
  refine lv_iconst (v := (1 : Int32)) hx hb dX11_months_1 (by decide) ?_
  refine lv_icmp_lt (tgt := 26) hx hb dX11_months_2 (by decide) (fun c1 => ?_) (fun c1 => ?_)
  · replace h := sh_t c1 h
    refine lv_iconst (v := (-1 : Int32)) hx hb dX11_months_26 (by decide) ?_
    exact tb_iretE h hx hb hr hS hW hlk dX11_months_27
  · replace h := sh_f c1 h
    refine lv_iload_n hx hb dX11_months_5 rfl (lv_at hl 1 rfl) ?_
    refine lv_bipush (v := (24 : Int32)) hx hb dX11_months_6 (by decide) ?_
    refine lv_icmp_gt (tgt := 26) hx hb dX11_months_8 (by decide) (fun c2 => ?_) (fun c2 => ?_)
    · replace h := sh_t c2 h
      refine lv_iconst (v := (-1 : Int32)) hx hb dX11_months_26 (by decide) ?_
      exact tb_iretE h hx hb hr hS hW hlk dX11_months_27
    · replace h := sh_f c2 h
      refine lv_aload_n hx hb dX11_months_11 rfl (lv_at hl 0 rfl) ?_
      refine gtX11_10 hx hb hts hown hK hW cz11 dX11_months_12 ?_
      refine gtX11_209 hx hb hts hown hK hW cz5 dX11_months_15 ?_
      refine lv_iload_n hx hb dX11_months_18 rfl (lv_at hl 1 rfl) ?_
      refine lv_iadd hx hb dX11_months_19 ?_
      refine lv_sipush (v := (599 : Int32)) hx hb dX11_months_20 (by decide) ?_
      refine lv_icmp_le (tgt := 28) hx hb dX11_months_23 (by decide) (fun c3 => ?_) (fun c3 => ?_)
      · replace h := sh_t c3 h
        refine lv_iconst (v := (0 : Int32)) hx hb dX11_months_28 (by decide) ?_
        refine lv_istore_n (lv' := [(2, .int (0 : Int32)), (0, .ref (ad 11 0)), (1, .int x1)]) hx hb dX11_months_29 rfl hl (by decide) rfl (fun ls hl => ?_)
        refine lv_iconst (v := (0 : Int32)) hx hb dX11_months_30 (by decide) ?_
        refine lv_istore_n (lv' := [(3, .int (0 : Int32)), (2, .int (0 : Int32)), (0, .ref (ad 11 0)), (1, .int x1)]) hx hb dX11_months_31 rfl hl (by decide) rfl (fun ls hl => ?_)
        have L4 : ∀ (n4 : Nat) (i5 : Int32) (i6 : Int32) (M7 : Mem) (H : Heap) (locs : List Loc) (ls : Array Slot), Wd D cy A (cnC nS nL) ad M7 H → va_S A s.heap H locs → lv_has ls 4 [(0, .ref (ad 11 0)), (1, .int x1), (2, .int i5), (3, .int i6)] → fX11_months_l32 x1 n4 i5 i6 M7 = some (r, M') → W p l e (rm 9 223) s m args below meth c H locs 0 0 (MQ below (QI D cy A (cnC nS nL) ad r M') args s 0 0 A) (F0 m 32 ls []) := by
          intro n4
          induction n4 with
          | zero => intro i5 i6 M7 H locs ls hW hS hl h; cases h
          | succ n4 ih4 =>
            intro i5 i6 M7 H locs ls hW hS hl h
            unfold fX11_months_l32 fX11_months_b32 at h
            refine lv_iload_n hx hb dX11_months_32 rfl (lv_at hl 3 rfl) ?_
            refine lv_iload_n hx hb dX11_months_33 rfl (lv_at hl 1 rfl) ?_
            refine lv_icmp_ge (tgt := 53) hx hb dX11_months_34 (by decide) (fun c8 => ?_) (fun c8 => ?_)
            · replace h := sh_t c8 h
              refine lv_iload_n hx hb dX11_months_53 rfl (lv_at hl 2 rfl) ?_
              exact tb_iretE h hx hb hr hS hW hlk dX11_months_54
            · replace h := sh_f c8 h
              refine lv_iload_n hx hb dX11_months_37 rfl (lv_at hl 2 rfl) ?_
              refine lv_aload_n hx hb dX11_months_38 rfl (lv_at hl 0 rfl) ?_
              refine gtX11_37 hx hb hts hown hK hW cz11 dX11_months_39 ?_
              replace h := bE_a h
              obtain ⟨b9, M10, hcb9, h⟩ := h
              refine tb_cVI hZk hx hb hml hown hts hK hZ hW hS [] (mX3_goOneMonth (l := l) hZk M7 b9 M10 hcb9) pmX3_goOneMonth tw785 (Wd.recv hK hW (t := 3) (by decide) cz3 (C := RX3) (T := TX3) (N := 10) rfl) ⟨Nat.le_of_ble_eq_true rfl, Nat.le_of_ble_eq_true rfl⟩ rfl hl.1 (Nat.le_of_ble_eq_true rfl) ⟨Nat.le_refl _, Nat.le_refl _⟩ rfl dX11_months_42 (fun H locs hW hS => ?_)
              refine lv_iadd hx hb dX11_months_45 ?_
              refine lv_topi (fun v11 ev11 => ?_)
              replace h := nm_a ev11 h
              refine lv_istore_n (lv' := [(2, .int v11), (0, .ref (ad 11 0)), (1, .int x1), (3, .int i6)]) hx hb dX11_months_46 rfl hl (by decide) rfl (fun ls hl => ?_)
              obtain ⟨v12, ev12⟩ : ∃ y : Int32, y = i6 + (1 : Int32) := ⟨_, rfl⟩
              replace h := nm_a ev12 h
              refine lv_iinc (v := v12) (lv' := [(3, .int v12), (2, .int v11), (0, .ref (ad 11 0)), (1, .int x1)]) hx hb dX11_months_47 hl (k := 3) rfl (by rw [ev12]; rfl) (by decide) rfl (fun ls hl => ?_)
              refine lv_goto (tgt := 32) hx hb dX11_months_50 (by decide) ?_
              exact ih4 v11 v12 M10 _ _ _ hW hS (lv_sub hl [2, 3, 1, 0] rfl) h
        exact L4 FU (0 : Int32) (0 : Int32) M0 _ _ _ hW hS (lv_sub hl [2, 3, 1, 0] rfl) h
      · replace h := sh_f c3 h
        refine lv_iconst (v := (-1 : Int32)) hx hb dX11_months_26 (by decide) ?_
        exact tb_iretE h hx hb hr hS hW hlk dX11_months_27
def fX11_feed (x1 : Int32) (x2 : Int32) (M0 : Mem) : Option (Int32 × Mem) :=
  if x1 < (1 : Int32) then (some ((-1 : Int32), M0)) else (if x1 ≤ (4 : Int32) then (bE (fX7_addBytes x1 x2 M0) fun b3 M4 => some (b3, M4)) else (some ((-1 : Int32), M0)))
set_option maxHeartbeats 4000000 in
set_option maxRecDepth 100000 in
theorem mX11_feed {l : Launch} {D : va_G} {cy : Nat → ClassId} {A : Nat → Prop} {K : KC} {nS nL : Nat} {ad : Nat → Nat → Nat} (hZk : ZOK A (ZC A K)) (x1 : Int32) (x2 : Int32) (M0 : Mem) (r : Int32) (M' : Mem) (h : fX11_feed x1 x2 M0 = some (r, M')) : Met l yX11_feed (wt yX11_feed cX11_feed 3 (some .int)) (rm 1 23) (CPre D cy A (ZC A K) (cnC nS nL) ad M0 [.ref (ad 11 0), .int x1, .int x2]) (QI D cy A (cnC nS nL) ad r M') 0 0 A := by
  refine tb_start [.ref (ad 11 0), .int x1, .int x2] [(0, .ref (ad 11 0)), (1, .int x1), (2, .int x2)] RX11 rfl (by decide +kernel) (Nat.le_of_ble_eq_true rfl) rfl (fun p e s m args below meth c hx hb hr hml hown hts hlk hW hK hZ ls hl => ?_)
  have hS : va_S A s.heap s.heap [] := va_S.rf
  unfold fX11_feed at h
  refine lv_iload_n hx hb dX11_feed_0 rfl (lv_at hl 1 rfl) ?_
  refine lv_iconst (v := (1 : Int32)) hx hb dX11_feed_1 (by decide) ?_
  refine lv_icmp_lt (tgt := 10) hx hb dX11_feed_2 (by decide) (fun c1 => ?_) (fun c1 => ?_)
  · replace h := sh_t c1 h
    refine lv_iconst (v := (-1 : Int32)) hx hb dX11_feed_10 (by decide) ?_
    exact tb_iretE h hx hb hr hS hW hlk dX11_feed_11
  · replace h := sh_f c1 h
    refine lv_iload_n hx hb dX11_feed_5 rfl (lv_at hl 1 rfl) ?_
    refine lv_iconst (v := (4 : Int32)) hx hb dX11_feed_6 (by decide) ?_
    refine lv_icmp_le (tgt := 12) hx hb dX11_feed_7 (by decide) (fun c2 => ?_) (fun c2 => ?_)
    · replace h := sh_t c2 h
      refine lv_aload_n hx hb dX11_feed_12 rfl (lv_at hl 0 rfl) ?_
      refine gtX11_44 hx hb hts hown hK hW cz11 dX11_feed_13 ?_
      refine lv_iload_n hx hb dX11_feed_16 rfl (lv_at hl 1 rfl) ?_
      refine lv_iload_n hx hb dX11_feed_17 rfl (lv_at hl 2 rfl) ?_
      replace h := bE_a h
      obtain ⟨b3, M4, hcb3, h⟩ := h
      refine tb_cVI hZk hx hb hml hown hts hK hZ hW hS [.int x1, .int x2] (mX7_addBytes (l := l) hZk x1 x2 M0 b3 M4 hcb3) pmX7_addBytes tw922 (Wd.recv hK hW (t := 7) (by decide) cz7 (C := RX7) (T := TX7) (N := 5) rfl) ⟨Nat.le_of_ble_eq_true rfl, Nat.le_of_ble_eq_true rfl⟩ rfl hl.1 (Nat.le_of_ble_eq_true rfl) ⟨Nat.le_refl _, Nat.le_refl _⟩ rfl dX11_feed_18 (fun H locs hW hS => ?_)
      exact tb_iretE h hx hb hr hS hW hlk dX11_feed_21
    · replace h := sh_f c2 h
      refine lv_iconst (v := (-1 : Int32)) hx hb dX11_feed_10 (by decide) ?_
      exact tb_iretE h hx hb hr hS hW hlk dX11_feed_11
def fX11_odds (x1 : Int32) (x2 : Int32) (M0 : Mem) : Option (Int32 × Mem) :=
  bd (fX5_stoneAt x1 M0) fun o1 => oc o1 (some ((-1 : Int32), M0)) fun a2 => if (mgI M0 801 a2 0) = (5 : Int32) then (if x2 < 0 then (some ((-1 : Int32), M0)) else (if x2 ≤ (1 : Int32) then (bE (fX3_oddsOf (some a2) x2 M0) fun b6 M7 => some (b6, M7)) else (some ((-1 : Int32), M0)))) else (some ((-1 : Int32), M0))
set_option maxHeartbeats 4000000 in
set_option maxRecDepth 100000 in
theorem mX11_odds {l : Launch} {D : va_G} {cy : Nat → ClassId} {A : Nat → Prop} {K : KC} {nS nL : Nat} {ad : Nat → Nat → Nat} (hZk : ZOK A (ZC A K)) (x1 : Int32) (x2 : Int32) (M0 : Mem) (r : Int32) (M' : Mem) (h : fX11_odds x1 x2 M0 = some (r, M')) : Met l yX11_odds (wt yX11_odds cX11_odds 4 (some .int)) (rm 7 177) (CPre D cy A (ZC A K) (cnC nS nL) ad M0 [.ref (ad 11 0), .int x1, .int x2]) (QI D cy A (cnC nS nL) ad r M') 0 0 A := by
  refine tb_start [.ref (ad 11 0), .int x1, .int x2] [(0, .ref (ad 11 0)), (1, .int x1), (2, .int x2)] RX11 rfl (by decide +kernel) (Nat.le_of_ble_eq_true rfl) rfl (fun p e s m args below meth c hx hb hr hml hown hts hlk hW hK hZ ls hl => ?_)
  have hS : va_S A s.heap s.heap [] := va_S.rf
  unfold fX11_odds at h
  refine lv_aload_n hx hb dX11_odds_0 rfl (lv_at hl 0 rfl) ?_
  refine gtX11_10 hx hb hts hown hK hW cz11 dX11_odds_1 ?_
  refine lv_iload_n hx hb dX11_odds_4 rfl (lv_at hl 1 rfl) ?_
  replace h := bd_a h
  obtain ⟨o1, hco1, h⟩ := h
  refine tb_cVR hZk hx hb hml hown hts hK hZ hW hS [.int x1] (mX5_stoneAt (l := l) hZk x1 M0 o1 hco1) pmX5_stoneAt tw502 (Wd.recv hK hW (t := 5) (by decide) cz5 (C := RX5) (T := TX5) (N := 7) rfl) ⟨Nat.le_of_ble_eq_true rfl, Nat.le_of_ble_eq_true rfl⟩ rfl hl.1 (Nat.le_of_ble_eq_true rfl) ⟨Nat.le_refl _, Nat.le_refl _⟩ rfl dX11_odds_5 (fun H locs hW hS hrr => ?_)
  have ho1 := hrr
  refine tb_astore_n (lv' := [(3, rv (ad 8) o1), (0, .ref (ad 11 0)), (1, .int x1), (2, .int x2)]) hx hb dX11_odds_8 rfl hl (by decide) rfl (fun ls hl => ?_)
  refine tb_aload_n hx hb dX11_odds_9 rfl (lv_at hl 0 rfl) ?_
  refine tb_ifnull (tgt := 30) hx hb dX11_odds_10 (by decide) (fun e0 => ?_) (fun a2 ea2 => ?_)
  · replace h := oc_n e0 h
    subst e0
    refine lv_iconst (v := (-1 : Int32)) hx hb dX11_odds_30 (by decide) ?_
    exact tb_iretE h hx hb hr hS hW hlk dX11_odds_31
  · replace h := oc_s ea2 h
    subst ea2
    have la2 := ho1 _ rfl
    refine lv_aload_n hx hb dX11_odds_13 rfl (lv_at hl 0 rfl) ?_
    refine gtX11_103 hx hb hts hown hK hW la2 dX11_odds_14 ?_
    refine lv_iconst (v := (5 : Int32)) hx hb dX11_odds_17 (by decide) ?_
    refine lv_icmp_ne (tgt := 30) hx hb dX11_odds_18 (by decide) (fun c3 => ?_) (fun c3 => ?_)
    · replace h := sh_f c3 h
      refine lv_iconst (v := (-1 : Int32)) hx hb dX11_odds_30 (by decide) ?_
      exact tb_iretE h hx hb hr hS hW hlk dX11_odds_31
    · replace h := sh_t c3 h
      refine lv_iload_n hx hb dX11_odds_21 rfl (lv_at hl 3 rfl) ?_
      refine lv_if_lt (tgt := 30) hx hb dX11_odds_22 (by decide) (fun c4 => ?_) (fun c4 => ?_)
      · replace h := sh_t c4 h
        refine lv_iconst (v := (-1 : Int32)) hx hb dX11_odds_30 (by decide) ?_
        exact tb_iretE h hx hb hr hS hW hlk dX11_odds_31
      · replace h := sh_f c4 h
        refine lv_iload_n hx hb dX11_odds_25 rfl (lv_at hl 3 rfl) ?_
        refine lv_iconst (v := (1 : Int32)) hx hb dX11_odds_26 (by decide) ?_
        refine lv_icmp_le (tgt := 32) hx hb dX11_odds_27 (by decide) (fun c5 => ?_) (fun c5 => ?_)
        · replace h := sh_t c5 h
          refine lv_aload_n hx hb dX11_odds_32 rfl (lv_at hl 1 rfl) ?_
          refine gtX11_37 hx hb hts hown hK hW cz11 dX11_odds_33 ?_
          refine lv_aload_n hx hb dX11_odds_36 rfl (lv_at hl 0 rfl) ?_
          refine lv_iload_n hx hb dX11_odds_37 rfl (lv_at hl 3 rfl) ?_
          replace h := bE_a h
          obtain ⟨b6, M7, hcb6, h⟩ := h
          refine tb_cVI hZk hx hb hml hown hts hK hZ hW hS [.ref (ad 8 a2), .int x2] (mX3_oddsOf (l := l) hZk (some a2) x2 M0 (fun z hz => Option.some.inj hz ▸ la2) b6 M7 hcb6) pmX3_oddsOf tw986 (Wd.recv hK hW (t := 3) (by decide) cz3 (C := RX3) (T := TX3) (N := 10) rfl) ⟨Nat.le_of_ble_eq_true rfl, Nat.le_of_ble_eq_true rfl⟩ rfl hl.1 (Nat.le_of_ble_eq_true rfl) ⟨Nat.le_refl _, Nat.le_refl _⟩ rfl dX11_odds_38 (fun H locs hW hS => ?_)
          exact tb_iretE h hx hb hr hS hW hlk dX11_odds_41
        · replace h := sh_f c5 h
          refine lv_iconst (v := (-1 : Int32)) hx hb dX11_odds_30 (by decide) ?_
          exact tb_iretE h hx hb hr hS hW hlk dX11_odds_31
def fX11_letter (x1 : Int32) (M0 : Mem) : Option (Int32 × Mem) :=
  bd (fX5_stoneAt x1 M0) fun o1 => oc o1 (some ((-1 : Int32), M0)) fun a2 => if (mgI M0 801 a2 0) = (5 : Int32) then (if (mgI M0 811 a2 0) = 0 then (nm (msI M0 811 a2 0 (1 : Int32)) fun M5 => some ((1 : Int32), M5)) else (some ((0 : Int32), M0))) else (some ((-1 : Int32), M0))
set_option maxHeartbeats 4000000 in
set_option maxRecDepth 100000 in
theorem mX11_letter {l : Launch} {D : va_G} {cy : Nat → ClassId} {A : Nat → Prop} {K : KC} {nS nL : Nat} {ad : Nat → Nat → Nat} (hZk : ZOK A (ZC A K)) (x1 : Int32) (M0 : Mem) (r : Int32) (M' : Mem) (h : fX11_letter x1 M0 = some (r, M')) : Met l yX11_letter (wt yX11_letter cX11_letter 3 (some .int)) (rm 1 21) (CPre D cy A (ZC A K) (cnC nS nL) ad M0 [.ref (ad 11 0), .int x1]) (QI D cy A (cnC nS nL) ad r M') 0 0 A := by
  refine tb_start [.ref (ad 11 0), .int x1] [(0, .ref (ad 11 0)), (1, .int x1)] RX11 rfl (by decide +kernel) (Nat.le_of_ble_eq_true rfl) rfl (fun p e s m args below meth c hx hb hr hml hown hts hlk hW hK hZ ls hl => ?_)
  have hS : va_S A s.heap s.heap [] := va_S.rf
  unfold fX11_letter at h
  refine lv_aload_n hx hb dX11_letter_0 rfl (lv_at hl 0 rfl) ?_
  refine gtX11_10 hx hb hts hown hK hW cz11 dX11_letter_1 ?_
  refine lv_iload_n hx hb dX11_letter_4 rfl (lv_at hl 1 rfl) ?_
  replace h := bd_a h
  obtain ⟨o1, hco1, h⟩ := h
  refine tb_cVR hZk hx hb hml hown hts hK hZ hW hS [.int x1] (mX5_stoneAt (l := l) hZk x1 M0 o1 hco1) pmX5_stoneAt tw502 (Wd.recv hK hW (t := 5) (by decide) cz5 (C := RX5) (T := TX5) (N := 7) rfl) ⟨Nat.le_of_ble_eq_true rfl, Nat.le_of_ble_eq_true rfl⟩ rfl hl.1 (Nat.le_of_ble_eq_true rfl) ⟨Nat.le_refl _, Nat.le_refl _⟩ rfl dX11_letter_5 (fun H locs hW hS hrr => ?_)
  have ho1 := hrr
  refine tb_astore_n (lv' := [(2, rv (ad 8) o1), (0, .ref (ad 11 0)), (1, .int x1)]) hx hb dX11_letter_8 rfl hl (by decide) rfl (fun ls hl => ?_)
  refine tb_aload_n hx hb dX11_letter_9 rfl (lv_at hl 0 rfl) ?_
  refine tb_ifnull (tgt := 21) hx hb dX11_letter_10 (by decide) (fun e0 => ?_) (fun a2 ea2 => ?_)
  · replace h := oc_n e0 h
    subst e0
    refine lv_iconst (v := (-1 : Int32)) hx hb dX11_letter_21 (by decide) ?_
    exact tb_iretE h hx hb hr hS hW hlk dX11_letter_22
  · replace h := oc_s ea2 h
    subst ea2
    have la2 := ho1 _ rfl
    refine lv_aload_n hx hb dX11_letter_13 rfl (lv_at hl 0 rfl) ?_
    refine gtX11_103 hx hb hts hown hK hW la2 dX11_letter_14 ?_
    refine lv_iconst (v := (5 : Int32)) hx hb dX11_letter_17 (by decide) ?_
    refine lv_icmp_eq (tgt := 23) hx hb dX11_letter_18 (by decide) (fun c3 => ?_) (fun c3 => ?_)
    · replace h := sh_t c3 h
      refine lv_aload_n hx hb dX11_letter_23 rfl (lv_at hl 0 rfl) ?_
      refine gtX11_274 hx hb hts hown hK hW la2 dX11_letter_24 ?_
      refine lv_if_eq (tgt := 32) hx hb dX11_letter_27 (by decide) (fun c4 => ?_) (fun c4 => ?_)
      · replace h := sh_t c4 h
        refine lv_aload_n hx hb dX11_letter_32 rfl (lv_at hl 0 rfl) ?_
        refine lv_iconst (v := (1 : Int32)) hx hb dX11_letter_33 (by decide) ?_
        refine ptX11_274 hx hb hts hown hK hW hS la2 rfl rfl dX11_letter_34 (fun H locs hW hS => ?_)
        obtain ⟨M5, eM5⟩ : ∃ y, y = msI M0 811 a2 0 (1 : Int32) := ⟨_, rfl⟩
        replace h := nm_a eM5 h
        rw [← eM5] at hW
        refine lv_iconst (v := (1 : Int32)) hx hb dX11_letter_37 (by decide) ?_
        exact tb_iretE h hx hb hr hS hW hlk dX11_letter_38
      · replace h := sh_f c4 h
        refine lv_iconst (v := (0 : Int32)) hx hb dX11_letter_30 (by decide) ?_
        exact tb_iretE h hx hb hr hS hW hlk dX11_letter_31
    · replace h := sh_f c3 h
      refine lv_iconst (v := (-1 : Int32)) hx hb dX11_letter_21 (by decide) ?_
      exact tb_iretE h hx hb hr hS hW hlk dX11_letter_22
def fX11_copy (x1 : Int32) (x2 : Int32) (M0 : Mem) : Option (Int32 × Mem) :=
  bd (fX5_stoneAt x1 M0) fun o1 => oc o1 (some ((-1 : Int32), M0)) fun a2 => if x2 < 0 then (some ((-1 : Int32), M0)) else (if x2 ≤ (999 : Int32) then (if (mgI M0 201 0 0) < (60 : Int32) then (bE (fX2_add x1 x2 M0) fun b6 M7 => some (b6, M7)) else (some ((-3 : Int32), M0))) else (some ((-1 : Int32), M0)))
set_option maxHeartbeats 4000000 in
set_option maxRecDepth 100000 in
theorem mX11_copy {l : Launch} {D : va_G} {cy : Nat → ClassId} {A : Nat → Prop} {K : KC} {nS nL : Nat} {ad : Nat → Nat → Nat} (hZk : ZOK A (ZC A K)) (x1 : Int32) (x2 : Int32) (M0 : Mem) (r : Int32) (M' : Mem) (h : fX11_copy x1 x2 M0 = some (r, M')) : Met l yX11_copy (wt yX11_copy cX11_copy 3 (some .int)) (rm 1 22) (CPre D cy A (ZC A K) (cnC nS nL) ad M0 [.ref (ad 11 0), .int x1, .int x2]) (QI D cy A (cnC nS nL) ad r M') 0 0 A := by
  refine tb_start [.ref (ad 11 0), .int x1, .int x2] [(0, .ref (ad 11 0)), (1, .int x1), (2, .int x2)] RX11 rfl (by decide +kernel) (Nat.le_of_ble_eq_true rfl) rfl (fun p e s m args below meth c hx hb hr hml hown hts hlk hW hK hZ ls hl => ?_)
  have hS : va_S A s.heap s.heap [] := va_S.rf
  unfold fX11_copy at h
  refine lv_aload_n hx hb dX11_copy_0 rfl (lv_at hl 0 rfl) ?_
  refine gtX11_10 hx hb hts hown hK hW cz11 dX11_copy_1 ?_
  refine lv_iload_n hx hb dX11_copy_4 rfl (lv_at hl 1 rfl) ?_
  replace h := bd_a h
  obtain ⟨o1, hco1, h⟩ := h
  refine tb_cVR hZk hx hb hml hown hts hK hZ hW hS [.int x1] (mX5_stoneAt (l := l) hZk x1 M0 o1 hco1) pmX5_stoneAt tw502 (Wd.recv hK hW (t := 5) (by decide) cz5 (C := RX5) (T := TX5) (N := 7) rfl) ⟨Nat.le_of_ble_eq_true rfl, Nat.le_of_ble_eq_true rfl⟩ rfl hl.1 (Nat.le_of_ble_eq_true rfl) ⟨Nat.le_refl _, Nat.le_refl _⟩ rfl dX11_copy_5 (fun H locs hW hS hrr => ?_)
  have ho1 := hrr
  refine tb_ifnull (tgt := 22) hx hb dX11_copy_8 (by decide) (fun e0 => ?_) (fun a2 ea2 => ?_)
  · replace h := oc_n e0 h
    subst e0
    refine lv_iconst (v := (-1 : Int32)) hx hb dX11_copy_22 (by decide) ?_
    exact tb_iretE h hx hb hr hS hW hlk dX11_copy_23
  · replace h := oc_s ea2 h
    subst ea2
    have la2 := ho1 _ rfl
    refine lv_iload_n hx hb dX11_copy_11 rfl (lv_at hl 2 rfl) ?_
    refine lv_if_lt (tgt := 22) hx hb dX11_copy_12 (by decide) (fun c3 => ?_) (fun c3 => ?_)
    · replace h := sh_t c3 h
      refine lv_iconst (v := (-1 : Int32)) hx hb dX11_copy_22 (by decide) ?_
      exact tb_iretE h hx hb hr hS hW hlk dX11_copy_23
    · replace h := sh_f c3 h
      refine lv_iload_n hx hb dX11_copy_15 rfl (lv_at hl 2 rfl) ?_
      refine lv_sipush (v := (999 : Int32)) hx hb dX11_copy_16 (by decide) ?_
      refine lv_icmp_le (tgt := 24) hx hb dX11_copy_19 (by decide) (fun c4 => ?_) (fun c4 => ?_)
      · replace h := sh_t c4 h
        refine lv_aload_n hx hb dX11_copy_24 rfl (lv_at hl 0 rfl) ?_
        refine gtX11_21 hx hb hts hown hK hW cz11 dX11_copy_25 ?_
        refine gtX11_277 hx hb hts hown hK hW cz2 dX11_copy_28 ?_
        refine lv_bipush (v := (60 : Int32)) hx hb dX11_copy_31 (by decide) ?_
        refine lv_icmp_lt (tgt := 39) hx hb dX11_copy_33 (by decide) (fun c5 => ?_) (fun c5 => ?_)
        · replace h := sh_t c5 h
          refine lv_aload_n hx hb dX11_copy_39 rfl (lv_at hl 0 rfl) ?_
          refine gtX11_21 hx hb hts hown hK hW cz11 dX11_copy_40 ?_
          refine lv_iload_n hx hb dX11_copy_43 rfl (lv_at hl 1 rfl) ?_
          refine lv_iload_n hx hb dX11_copy_44 rfl (lv_at hl 2 rfl) ?_
          replace h := bE_a h
          obtain ⟨b6, M7, hcb6, h⟩ := h
          refine tb_cVI hZk hx hb hml hown hts hK hZ hW hS [.int x1, .int x2] (mX2_add (l := l) hZk x1 x2 M0 b6 M7 hcb6) pmX2_add tw995 (Wd.recv hK hW (t := 2) (by decide) cz2 (C := RX2) (T := TX2) (N := 5) rfl) ⟨Nat.le_of_ble_eq_true rfl, Nat.le_of_ble_eq_true rfl⟩ rfl hl.1 (Nat.le_of_ble_eq_true rfl) ⟨Nat.le_refl _, Nat.le_refl _⟩ rfl dX11_copy_45 (fun H locs hW hS => ?_)
          exact tb_iretE h hx hb hr hS hW hlk dX11_copy_48
        · replace h := sh_f c5 h
          refine lv_bipush (v := (-3 : Int32)) hx hb dX11_copy_36 (by decide) ?_
          exact tb_iretE h hx hb hr hS hW hlk dX11_copy_38
      · replace h := sh_f c4 h
        refine lv_iconst (v := (-1 : Int32)) hx hb dX11_copy_22 (by decide) ?_
        exact tb_iretE h hx hb hr hS hW hlk dX11_copy_23
def fX11_mark (x1 : Int32) (x2 : Int32) (M0 : Mem) : Option (Int32 × Mem) :=
  nm (fX2_isCopy x1 M0) fun b1 => if b1 = 0 then (some ((-2000000000 : Int32), M0)) else (if x2 < 0 then (some ((-2000000000 : Int32), M0)) else (if x2 ≤ (1 : Int32) then (ix x1 60 <| nm (mgI M0 2500 0 x1.toNatClampNeg) fun v5 => if x2 = (1 : Int32) then (bE (fX1_make (2 : Int32) x1 v5 (mgI M0 504 0 0) M0) fun u9 M10 => some (v5, M10)) else (bE (fX1_make (2 : Int32) x1 v5 (-1 : Int32) M0) fun u7 M8 => some (v5, M8))) else (some ((-2000000000 : Int32), M0))))
set_option maxHeartbeats 4000000 in
set_option maxRecDepth 100000 in
theorem mX11_mark {l : Launch} {D : va_G} {cy : Nat → ClassId} {A : Nat → Prop} {K : KC} {nS nL : Nat} {ad : Nat → Nat → Nat} (hZk : ZOK A (ZC A K)) (x1 : Int32) (x2 : Int32) (M0 : Mem) (r : Int32) (M' : Mem) (h : fX11_mark x1 x2 M0 = some (r, M')) : Met l yX11_mark (wt yX11_mark cX11_mark 4 (some .int)) (rm 3 69) (CPre D cy A (ZC A K) (cnC nS nL) ad M0 [.ref (ad 11 0), .int x1, .int x2]) (QI D cy A (cnC nS nL) ad r M') 0 0 A := by
  refine tb_start [.ref (ad 11 0), .int x1, .int x2] [(0, .ref (ad 11 0)), (1, .int x1), (2, .int x2)] RX11 rfl (by decide +kernel) (Nat.le_of_ble_eq_true rfl) rfl (fun p e s m args below meth c hx hb hr hml hown hts hlk hW hK hZ ls hl => ?_)
  have hS : va_S A s.heap s.heap [] := va_S.rf
  unfold fX11_mark at h
  refine lv_aload_n hx hb dX11_mark_0 rfl (lv_at hl 0 rfl) ?_
  refine gtX11_21 hx hb hts hown hK hW cz11 dX11_mark_1 ?_
  refine lv_iload_n hx hb dX11_mark_4 rfl (lv_at hl 1 rfl) ?_
  refine tb_cVZ hZk hx hb hml hown hts hK hZ hW hS [.int x1] (mX2_isCopy (l := l) hZk x1 M0 (fX2_isCopy x1 M0) rfl) pmX2_isCopy tw1003 (Wd.recv hK hW (t := 2) (by decide) cz2 (C := RX2) (T := TX2) (N := 5) rfl) ⟨Nat.le_of_ble_eq_true rfl, Nat.le_of_ble_eq_true rfl⟩ rfl hl.1 (Nat.le_of_ble_eq_true rfl) ⟨Nat.le_refl _, Nat.le_refl _⟩ rfl dX11_mark_5 (fun H locs hW hS hzz => ?_)
  refine lv_topi (fun b1 eb1 => ?_)
  replace h := nm_a eb1 h
  have hzb1 : b1 = 0 ∨ b1 = 1 := by rw [eb1]; exact hzz
  refine lv_if_eq (tgt := 20) hx hb dX11_mark_8 (by decide) (fun c2 => ?_) (fun c2 => ?_)
  · replace h := sh_t c2 h
    refine lv_ldc hx hb hown (hts _ tw672) dX11_mark_20 ?_
    exact tb_iretE h hx hb hr hS hW hlk dX11_mark_22
  · replace h := sh_f c2 h
    refine lv_iload_n hx hb dX11_mark_11 rfl (lv_at hl 2 rfl) ?_
    refine lv_if_lt (tgt := 20) hx hb dX11_mark_12 (by decide) (fun c3 => ?_) (fun c3 => ?_)
    · replace h := sh_t c3 h
      refine lv_ldc hx hb hown (hts _ tw672) dX11_mark_20 ?_
      exact tb_iretE h hx hb hr hS hW hlk dX11_mark_22
    · replace h := sh_f c3 h
      refine lv_iload_n hx hb dX11_mark_15 rfl (lv_at hl 2 rfl) ?_
      refine lv_iconst (v := (1 : Int32)) hx hb dX11_mark_16 (by decide) ?_
      refine lv_icmp_le (tgt := 23) hx hb dX11_mark_17 (by decide) (fun c4 => ?_) (fun c4 => ?_)
      · replace h := sh_t c4 h
        refine lv_aload_n hx hb dX11_mark_23 rfl (lv_at hl 0 rfl) ?_
        refine gtX11_21 hx hb hts hown hK hW cz11 dX11_mark_24 ?_
        refine gtX11_284 hx hb hts hown hK hW cz2 dX11_mark_27 ?_
        refine lv_iload_n hx hb dX11_mark_30 rfl (lv_at hl 1 rfl) ?_
        replace h := ix_a h
        obtain ⟨hj, h⟩ := h
        refine al25 hx hb hK hW cz25 hj dX11_mark_31 ?_
        refine lv_topi (fun v5 ev5 => ?_)
        replace h := nm_a ev5 h
        refine lv_istore_n (lv' := [(3, .int v5), (0, .ref (ad 11 0)), (1, .int x1), (2, .int x2)]) hx hb dX11_mark_32 rfl hl (by decide) rfl (fun ls hl => ?_)
        refine lv_aload_n hx hb dX11_mark_33 rfl (lv_at hl 1 rfl) ?_
        refine gtX11_51 hx hb hts hown hK hW cz11 dX11_mark_34 ?_
        refine lv_iconst (v := (2 : Int32)) hx hb dX11_mark_37 (by decide) ?_
        refine lv_iload_n hx hb dX11_mark_38 rfl (lv_at hl 2 rfl) ?_
        refine lv_iload_n hx hb dX11_mark_39 rfl (lv_at hl 0 rfl) ?_
        refine lv_iload_n hx hb dX11_mark_40 rfl (lv_at hl 3 rfl) ?_
        refine lv_iconst (v := (1 : Int32)) hx hb dX11_mark_41 (by decide) ?_
        refine lv_icmp_ne (tgt := 55) hx hb dX11_mark_42 (by decide) (fun c6 => ?_) (fun c6 => ?_)
        · replace h := sh_f c6 h
          refine lv_iconst (v := (-1 : Int32)) hx hb dX11_mark_55 (by decide) ?_
          replace h := bE_a h
          obtain ⟨u7, M8, hcu7, h⟩ := h
          refine tb_cVV hZk hx hb hml hown hts hK hZ hW hS [.int (2 : Int32), .int x1, .int v5, .int (-1 : Int32)] (mX1_make (l := l) hZk (2 : Int32) x1 v5 (-1 : Int32) M0 u7 M8 hcu7) pmX1_make tw699 (Wd.recv hK hW (t := 1) (by decide) cz1 (C := RX1) (T := TX1) (N := 8) rfl) ⟨Nat.le_of_ble_eq_true rfl, Nat.le_of_ble_eq_true rfl⟩ rfl hl.1 (Nat.le_of_ble_eq_true rfl) ⟨Nat.le_refl _, Nat.le_refl _⟩ rfl dX11_mark_56 (fun H locs hW hS => ?_)
          refine lv_iload_n hx hb dX11_mark_59 rfl (lv_at hl 0 rfl) ?_
          exact tb_iretE h hx hb hr hS hW hlk dX11_mark_60
        · replace h := sh_t c6 h
          refine lv_aload_n hx hb dX11_mark_45 rfl (lv_at hl 1 rfl) ?_
          refine gtX11_10 hx hb hts hown hK hW cz11 dX11_mark_46 ?_
          refine gtX11_209 hx hb hts hown hK hW cz5 dX11_mark_49 ?_
          refine lv_goto (tgt := 56) hx hb dX11_mark_52 (by decide) ?_
          replace h := bE_a h
          obtain ⟨u9, M10, hcu9, h⟩ := h
          refine tb_cVV hZk hx hb hml hown hts hK hZ hW hS [.int (2 : Int32), .int x1, .int v5, .int (mgI M0 504 0 0)] (mX1_make (l := l) hZk (2 : Int32) x1 v5 (mgI M0 504 0 0) M0 u9 M10 hcu9) pmX1_make tw699 (Wd.recv hK hW (t := 1) (by decide) cz1 (C := RX1) (T := TX1) (N := 8) rfl) ⟨Nat.le_of_ble_eq_true rfl, Nat.le_of_ble_eq_true rfl⟩ rfl hl.1 (Nat.le_of_ble_eq_true rfl) ⟨Nat.le_refl _, Nat.le_refl _⟩ rfl dX11_mark_56 (fun H locs hW hS => ?_)
          refine lv_iload_n hx hb dX11_mark_59 rfl (lv_at hl 0 rfl) ?_
          exact tb_iretE h hx hb hr hS hW hlk dX11_mark_60
      · replace h := sh_f c4 h
        refine lv_ldc hx hb hown (hts _ tw672) dX11_mark_20 ?_
        exact tb_iretE h hx hb hr hS hW hlk dX11_mark_22
def fX11_lacks (x1 : Int32) (M0 : Mem) : Option Int32 :=
  bd (fX2_unmarkedOf (mgL M0 505 0 0) M0) fun g1 => if x1 = (-2 : Int32) then (bd (fX2_reachOf g1 M0) fun b4 => some b4) else (bd (fX11_nth g1 x1) fun b3 => some b3)
set_option maxHeartbeats 4000000 in
set_option maxRecDepth 100000 in
theorem mX11_lacks {l : Launch} {D : va_G} {cy : Nat → ClassId} {A : Nat → Prop} {K : KC} {nS nL : Nat} {ad : Nat → Nat → Nat} (hZk : ZOK A (ZC A K)) (x1 : Int32) (M0 : Mem) (r : Int32) (h : fX11_lacks x1 M0 = some r) : Met l yX11_lacks (wt yX11_lacks cX11_lacks 4 (some .int)) (rm 2 47) (CPre D cy A (ZC A K) (cnC nS nL) ad M0 [.ref (ad 11 0), .int x1]) (QI D cy A (cnC nS nL) ad r M0) 0 0 A := by
  refine tb_start [.ref (ad 11 0), .int x1] [(0, .ref (ad 11 0)), (1, .int x1)] RX11 rfl (by decide +kernel) (Nat.le_of_ble_eq_true rfl) rfl (fun p e s m args below meth c hx hb hr hml hown hts hlk hW hK hZ ls hl => ?_)
  have hS : va_S A s.heap s.heap [] := va_S.rf
  unfold fX11_lacks at h
  refine lv_aload_n hx hb dX11_lacks_0 rfl (lv_at hl 0 rfl) ?_
  refine gtX11_21 hx hb hts hown hK hW cz11 dX11_lacks_1 ?_
  refine lv_aload_n hx hb dX11_lacks_4 rfl (lv_at hl 0 rfl) ?_
  refine gtX11_10 hx hb hts hown hK hW cz11 dX11_lacks_5 ?_
  refine gtX11_212 hx hb hts hown hK hW cz5 dX11_lacks_8 ?_
  replace h := bd_a h
  obtain ⟨g1, hcg1, h⟩ := h
  refine tb_cVL hZk hx hb hml hown hts hK hZ hW hS [.long (mgL M0 505 0 0)] (mX2_unmarkedOf (l := l) hZk (mgL M0 505 0 0) M0 g1 hcg1) pmX2_unmarkedOf tw1008 (Wd.recv hK hW (t := 2) (by decide) cz2 (C := RX2) (T := TX2) (N := 5) rfl) ⟨Nat.le_of_ble_eq_true rfl, Nat.le_of_ble_eq_true rfl⟩ rfl hl.1 (Nat.le_of_ble_eq_true rfl) ⟨Nat.le_refl _, Nat.le_refl _⟩ rfl dX11_lacks_11 (fun H locs hW hS => ?_)
  refine lv_lstore_n (lv' := [(2, .long g1), (0, .ref (ad 11 0)), (1, .int x1)]) hx hb dX11_lacks_14 rfl hl (by decide) rfl (fun ls hl => ?_)
  refine lv_iload_n hx hb dX11_lacks_15 rfl (lv_at hl 2 rfl) ?_
  refine lv_bipush (v := (-2 : Int32)) hx hb dX11_lacks_16 (by decide) ?_
  refine lv_icmp_ne (tgt := 32) hx hb dX11_lacks_18 (by decide) (fun c2 => ?_) (fun c2 => ?_)
  · replace h := sh_f c2 h
    refine lv_lload_n hx hb dX11_lacks_32 rfl (lv_at hl 0 rfl) ?_
    refine lv_iload_n hx hb dX11_lacks_33 rfl (lv_at hl 2 rfl) ?_
    replace h := bd_a h
    obtain ⟨b3, hcb3, h⟩ := h
    refine tb_cSI hZk hx hb hml hown hts hK hZ hW hS [.long g1, .int x1] (mX11_nth (l := l) hZk g1 x1 M0 b3 hcb3) pmX11_nth tw737 ⟨Nat.le_of_ble_eq_true rfl, Nat.le_of_ble_eq_true rfl⟩ rfl hl.1 (Nat.le_of_ble_eq_true rfl) ⟨Nat.le_refl _, Nat.le_refl _⟩ rfl dX11_lacks_34 (fun H locs hW hS => ?_)
    exact tb_iretO h hx hb hr hS hW hlk dX11_lacks_37
  · replace h := sh_t c2 h
    refine lv_aload_n hx hb dX11_lacks_21 rfl (lv_at hl 1 rfl) ?_
    refine gtX11_21 hx hb hts hown hK hW cz11 dX11_lacks_22 ?_
    refine lv_lload_n hx hb dX11_lacks_25 rfl (lv_at hl 0 rfl) ?_
    replace h := bd_a h
    obtain ⟨b4, hcb4, h⟩ := h
    refine tb_cVI hZk hx hb hml hown hts hK hZ hW hS [.long g1] (mX2_reachOf (l := l) hZk g1 M0 b4 hcb4) pmX2_reachOf tw1009 (Wd.recv hK hW (t := 2) (by decide) cz2 (C := RX2) (T := TX2) (N := 5) rfl) ⟨Nat.le_of_ble_eq_true rfl, Nat.le_of_ble_eq_true rfl⟩ rfl hl.1 (Nat.le_of_ble_eq_true rfl) ⟨Nat.le_refl _, Nat.le_refl _⟩ rfl dX11_lacks_26 (fun H locs hW hS => ?_)
    refine lv_goto (tgt := 37) hx hb dX11_lacks_29 (by decide) ?_
    exact tb_iretO h hx hb hr hS hW hlk dX11_lacks_37
def fX11_tell (x1 : Int32) (x2 : Int32) (M0 : Mem) : Option (Int32 × Mem) :=
  if x1 < 0 then (some ((-1 : Int32), M0)) else (if (60 : Int32) < x1 then (some ((-1 : Int32), M0)) else (if x2 < 0 then (some ((-1 : Int32), M0)) else (if x2 ≤ (2 : Int32) then (bE (fX3_bestSet x1 M0) fun b5 M6 => if x2 = (0 : Int32) then (ix b5 1024 <| some ((fJ13_bitCount_95d88 (mgL M6 2800 0 b5.toNatClampNeg)), M6)) else if x2 = (1 : Int32) then (ix b5 1024 <| some (mgI M6 2900 0 b5.toNatClampNeg, M6)) else some (b5, M6)) else (some ((-1 : Int32), M0)))))
set_option maxHeartbeats 4000000 in
set_option maxRecDepth 100000 in
theorem mX11_tell {l : Launch} {D : va_G} {cy : Nat → ClassId} {A : Nat → Prop} {K : KC} {nS nL : Nat} {ad : Nat → Nat → Nat} (hZk : ZOK A (ZC A K)) (x1 : Int32) (x2 : Int32) (M0 : Mem) (r : Int32) (M' : Mem) (h : fX11_tell x1 x2 M0 = some (r, M')) : Met l yX11_tell (wt yX11_tell cX11_tell 4 (some .int)) (rm 4 96) (CPre D cy A (ZC A K) (cnC nS nL) ad M0 [.ref (ad 11 0), .int x1, .int x2]) (QI D cy A (cnC nS nL) ad r M') 0 0 A := by
  refine tb_start [.ref (ad 11 0), .int x1, .int x2] [(0, .ref (ad 11 0)), (1, .int x1), (2, .int x2)] RX11 rfl (by decide +kernel) (Nat.le_of_ble_eq_true rfl) rfl (fun p e s m args below meth c hx hb hr hml hown hts hlk hW hK hZ ls hl => ?_)
  have hS : va_S A s.heap s.heap [] := va_S.rf
  unfold fX11_tell at h
  refine lv_iload_n hx hb dX11_tell_0 rfl (lv_at hl 1 rfl) ?_
  refine lv_if_lt (tgt := 19) hx hb dX11_tell_1 (by decide) (fun c1 => ?_) (fun c1 => ?_)
  · replace h := sh_t c1 h
    refine lv_iconst (v := (-1 : Int32)) hx hb dX11_tell_19 (by decide) ?_
    exact tb_iretE h hx hb hr hS hW hlk dX11_tell_20
  · replace h := sh_f c1 h
    refine lv_iload_n hx hb dX11_tell_4 rfl (lv_at hl 1 rfl) ?_
    refine lv_bipush (v := (60 : Int32)) hx hb dX11_tell_5 (by decide) ?_
    refine lv_icmp_gt (tgt := 19) hx hb dX11_tell_7 (by decide) (fun c2 => ?_) (fun c2 => ?_)
    · replace h := sh_t c2 h
      refine lv_iconst (v := (-1 : Int32)) hx hb dX11_tell_19 (by decide) ?_
      exact tb_iretE h hx hb hr hS hW hlk dX11_tell_20
    · replace h := sh_f c2 h
      refine lv_iload_n hx hb dX11_tell_10 rfl (lv_at hl 2 rfl) ?_
      refine lv_if_lt (tgt := 19) hx hb dX11_tell_11 (by decide) (fun c3 => ?_) (fun c3 => ?_)
      · replace h := sh_t c3 h
        refine lv_iconst (v := (-1 : Int32)) hx hb dX11_tell_19 (by decide) ?_
        exact tb_iretE h hx hb hr hS hW hlk dX11_tell_20
      · replace h := sh_f c3 h
        refine lv_iload_n hx hb dX11_tell_14 rfl (lv_at hl 2 rfl) ?_
        refine lv_iconst (v := (2 : Int32)) hx hb dX11_tell_15 (by decide) ?_
        refine lv_icmp_le (tgt := 21) hx hb dX11_tell_16 (by decide) (fun c4 => ?_) (fun c4 => ?_)
        · replace h := sh_t c4 h
          refine lv_aload_n hx hb dX11_tell_21 rfl (lv_at hl 0 rfl) ?_
          refine gtX11_37 hx hb hts hown hK hW cz11 dX11_tell_22 ?_
          refine lv_iload_n hx hb dX11_tell_25 rfl (lv_at hl 1 rfl) ?_
          replace h := bE_a h
          obtain ⟨b5, M6, hcb5, h⟩ := h
          refine tb_cVI hZk hx hb hml hown hts hK hZ hW hS [.int x1] (mX3_bestSet (l := l) hZk x1 M0 b5 M6 hcb5) pmX3_bestSet tw1017 (Wd.recv hK hW (t := 3) (by decide) cz3 (C := RX3) (T := TX3) (N := 10) rfl) ⟨Nat.le_of_ble_eq_true rfl, Nat.le_of_ble_eq_true rfl⟩ rfl hl.1 (Nat.le_of_ble_eq_true rfl) ⟨Nat.le_refl _, Nat.le_refl _⟩ rfl dX11_tell_26 (fun H locs hW hS => ?_)
          refine lv_istore_n (lv' := [(3, .int b5), (0, .ref (ad 11 0)), (1, .int x1), (2, .int x2)]) hx hb dX11_tell_29 rfl hl (by decide) rfl (fun ls hl => ?_)
          refine lv_iload_n hx hb dX11_tell_30 rfl (lv_at hl 3 rfl) ?_
          by_cases c7 : x2 = (0 : Int32)
          · replace h := sh_t c7 h
            refine lv_lookup (off := 25) (tgt := 56) hx hb dX11_tell_31 (by decide) (by rw [c7]; decide) (by decide) ?_
            refine lv_aload_n hx hb dX11_tell_56 rfl (lv_at hl 1 rfl) ?_
            refine gtX11_37 hx hb hts hown hK hW cz11 dX11_tell_57 ?_
            refine gtX11_298 hx hb hts hown hK hW cz3 dX11_tell_60 ?_
            refine lv_iload_n hx hb dX11_tell_63 rfl (lv_at hl 0 rfl) ?_
            replace h := ix_a h
            obtain ⟨hj, h⟩ := h
            refine al28 hx hb hK hW cz28 hj dX11_tell_64 ?_
            refine tb_cSI hZk hx hb hml hown hts hK hZ hW hS [.long (mgL M6 2800 0 b5.toNatClampNeg)] (mJ13_bitCount_95d88 (l := l) hZk (mgL M6 2800 0 b5.toNatClampNeg) M6 (fJ13_bitCount_95d88 (mgL M6 2800 0 b5.toNatClampNeg)) rfl) pmJ13_bitCount_95d88 tw662 ⟨Nat.le_of_ble_eq_true rfl, Nat.le_of_ble_eq_true rfl⟩ rfl hl.1 (Nat.le_of_ble_eq_true rfl) ⟨Nat.le_refl _, Nat.le_refl _⟩ rfl dX11_tell_65 (fun H locs hW hS => ?_)
            exact tb_iretE h hx hb hr hS hW hlk dX11_tell_68
          · replace h := sh_f c7 h
            by_cases c8 : x2 = (1 : Int32)
            · replace h := sh_t c8 h
              refine lv_lookup (off := 38) (tgt := 69) hx hb dX11_tell_31 (by decide) (by rw [c8]; decide) (by decide) ?_
              refine lv_aload_n hx hb dX11_tell_69 rfl (lv_at hl 1 rfl) ?_
              refine gtX11_37 hx hb hts hown hK hW cz11 dX11_tell_70 ?_
              refine gtX11_302 hx hb hts hown hK hW cz3 dX11_tell_73 ?_
              refine lv_iload_n hx hb dX11_tell_76 rfl (lv_at hl 0 rfl) ?_
              replace h := ix_a h
              obtain ⟨hj, h⟩ := h
              refine al29 hx hb hK hW cz29 hj dX11_tell_77 ?_
              exact tb_iretE h hx hb hr hS hW hlk dX11_tell_78
            · replace h := sh_f c8 h
              refine lv_lookup (off := 48) (tgt := 79) hx hb dX11_tell_31 (by decide) (lk_no (fun e => c7 (Int32.toInt_inj.mp (e.symm.trans (by decide)))) (lk_no (fun e => c8 (Int32.toInt_inj.mp (e.symm.trans (by decide)))) (lk_end))) (by decide) ?_
              refine lv_iload_n hx hb dX11_tell_79 rfl (lv_at hl 0 rfl) ?_
              exact tb_iretE h hx hb hr hS hW hlk dX11_tell_80
        · replace h := sh_f c4 h
          refine lv_iconst (v := (-1 : Int32)) hx hb dX11_tell_19 (by decide) ?_
          exact tb_iretE h hx hb hr hS hW hlk dX11_tell_20
def fX11_land (x1 : Int32) (M0 : Mem) : Option (Int32 × Mem) :=
  if x1 < 0 then (some ((-1 : Int32), M0)) else (if x1 ≤ (7 : Int32) then (bE (fX9_costOf x1 M0) fun b3 M4 => some (b3, M4)) else (some ((-1 : Int32), M0)))
set_option maxHeartbeats 4000000 in
set_option maxRecDepth 100000 in
theorem mX11_land {l : Launch} {D : va_G} {cy : Nat → ClassId} {A : Nat → Prop} {K : KC} {nS nL : Nat} {ad : Nat → Nat → Nat} (hZk : ZOK A (ZC A K)) (x1 : Int32) (M0 : Mem) (r : Int32) (M' : Mem) (h : fX11_land x1 M0 = some (r, M')) : Met l yX11_land (wt yX11_land cX11_land 2 (some .int)) (rm 4 125) (CPre D cy A (ZC A K) (cnC nS nL) ad M0 [.ref (ad 11 0), .int x1]) (QI D cy A (cnC nS nL) ad r M') 0 0 A := by
  refine tb_start [.ref (ad 11 0), .int x1] [(0, .ref (ad 11 0)), (1, .int x1)] RX11 rfl (by decide +kernel) (Nat.le_of_ble_eq_true rfl) rfl (fun p e s m args below meth c hx hb hr hml hown hts hlk hW hK hZ ls hl => ?_)
  have hS : va_S A s.heap s.heap [] := va_S.rf
  unfold fX11_land at h
  refine lv_iload_n hx hb dX11_land_0 rfl (lv_at hl 1 rfl) ?_
  refine lv_if_lt (tgt := 10) hx hb dX11_land_1 (by decide) (fun c1 => ?_) (fun c1 => ?_)
  · replace h := sh_t c1 h
    refine lv_iconst (v := (-1 : Int32)) hx hb dX11_land_10 (by decide) ?_
    exact tb_iretE h hx hb hr hS hW hlk dX11_land_11
  · replace h := sh_f c1 h
    refine lv_iload_n hx hb dX11_land_4 rfl (lv_at hl 1 rfl) ?_
    refine lv_bipush (v := (7 : Int32)) hx hb dX11_land_5 (by decide) ?_
    refine lv_icmp_le (tgt := 12) hx hb dX11_land_7 (by decide) (fun c2 => ?_) (fun c2 => ?_)
    · replace h := sh_t c2 h
      refine lv_aload_n hx hb dX11_land_12 rfl (lv_at hl 0 rfl) ?_
      refine gtX11_28 hx hb hts hown hK hW cz11 dX11_land_13 ?_
      refine lv_iload_n hx hb dX11_land_16 rfl (lv_at hl 1 rfl) ?_
      replace h := bE_a h
      obtain ⟨b3, M4, hcb3, h⟩ := h
      refine tb_cVI hZk hx hb hml hown hts hK hZ hW hS [.int x1] (mX9_costOf (l := l) hZk x1 M0 b3 M4 hcb3) pmX9_costOf tw1035 (Wd.recv hK hW (t := 9) (by decide) cz9 (C := RX9) (T := TX9) (N := 4) rfl) ⟨Nat.le_of_ble_eq_true rfl, Nat.le_of_ble_eq_true rfl⟩ rfl hl.1 (Nat.le_of_ble_eq_true rfl) ⟨Nat.le_refl _, Nat.le_refl _⟩ rfl dX11_land_17 (fun H locs hW hS => ?_)
      exact tb_iretE h hx hb hr hS hW hlk dX11_land_20
    · replace h := sh_f c2 h
      refine lv_iconst (v := (-1 : Int32)) hx hb dX11_land_10 (by decide) ?_
      exact tb_iretE h hx hb hr hS hW hlk dX11_land_11
def fX11_isName (x0 : Int32) : Int32 :=
  if x0 < 0 then ((0 : Int32)) else (if (20 : Int32) ≤ x0 then ((0 : Int32)) else ((1 : Int32)))
set_option maxHeartbeats 4000000 in
set_option maxRecDepth 100000 in
theorem mX11_isName {l : Launch} {D : va_G} {cy : Nat → ClassId} {A : Nat → Prop} {K : KC} {nS nL : Nat} {ad : Nat → Nat → Nat} (hZk : ZOK A (ZC A K)) (x0 : Int32) (M0 : Mem) (r : Int32) (h : fX11_isName x0 = r) : Met l yX11_isName (wt yX11_isName cX11_isName 1 (some .boolean)) (rm 0 0) (CPre D cy A (ZC A K) (cnC nS nL) ad M0 [.int x0]) (QZ D cy A (cnC nS nL) ad r M0) 0 0 A := by
  refine tb_start [.int x0] [(0, .int x0)] RX11 rfl (by decide +kernel) (Nat.le_of_ble_eq_true rfl) rfl (fun p e s m args below meth c hx hb hr hml hown hts hlk hW hK hZ ls hl => ?_)
  have hS : va_S A s.heap s.heap [] := va_S.rf
  unfold fX11_isName at h
  refine lv_iload_n hx hb dX11_isName_0 rfl (lv_at hl 0 rfl) ?_
  refine lv_if_lt (tgt := 14) hx hb dX11_isName_1 (by decide) (fun c1 => ?_) (fun c1 => ?_)
  · replace h := sh_t c1 h
    refine lv_iconst (v := (0 : Int32)) hx hb dX11_isName_14 (by decide) ?_
    exact tb_zretP h hx hb hr hS hW hlk (by decide) dX11_isName_15
  · replace h := sh_f c1 h
    refine lv_iload_n hx hb dX11_isName_4 rfl (lv_at hl 0 rfl) ?_
    refine lv_bipush (v := (20 : Int32)) hx hb dX11_isName_5 (by decide) ?_
    refine lv_icmp_ge (tgt := 14) hx hb dX11_isName_7 (by decide) (fun c2 => ?_) (fun c2 => ?_)
    · replace h := sh_t c2 h
      refine lv_iconst (v := (0 : Int32)) hx hb dX11_isName_14 (by decide) ?_
      exact tb_zretP h hx hb hr hS hW hlk (by decide) dX11_isName_15
    · replace h := sh_f c2 h
      refine lv_iconst (v := (1 : Int32)) hx hb dX11_isName_10 (by decide) ?_
      refine lv_goto (tgt := 15) hx hb dX11_isName_11 (by decide) ?_
      exact tb_zretP h hx hb hr hS hW hlk (by decide) dX11_isName_15
def fX11_name (x1 : Int32) (x2 : Int32) (x3 : Int32) (M0 : Mem) : Option (Int32 × Mem) :=
  bd (fX5_stoneAt x1 M0) fun o1 => oc o1 (some ((-1 : Int32), M0)) fun a2 => nm (fX11_isName x2) fun b3 => if b3 = 0 then (some ((-1 : Int32), M0)) else (if x3 < (1 : Int32) then (some ((-1 : Int32), M0)) else (if x3 ≤ (9 : Int32) then (ix x2 20 <| nm (msI M0 4000 a2 x2.toNatClampNeg x3) fun M7 => nm ((mgI M7 806 a2 0) ||| ((1 : Int32) <<< (x2 &&& 31))) fun v8 => nm (msI M7 806 a2 0 v8) fun M9 => some ((fJ6_bitCount_0f7a4 (mgI M9 806 a2 0)), M9)) else (some ((-1 : Int32), M0))))
set_option maxHeartbeats 4000000 in
set_option maxRecDepth 100000 in
theorem mX11_name {l : Launch} {D : va_G} {cy : Nat → ClassId} {A : Nat → Prop} {K : KC} {nS nL : Nat} {ad : Nat → Nat → Nat} (hZk : ZOK A (ZC A K)) (x1 : Int32) (x2 : Int32) (x3 : Int32) (M0 : Mem) (r : Int32) (M' : Mem) (h : fX11_name x1 x2 x3 M0 = some (r, M')) : Met l yX11_name (wt yX11_name cX11_name 5 (some .int)) (rm 1 21) (CPre D cy A (ZC A K) (cnC nS nL) ad M0 [.ref (ad 11 0), .int x1, .int x2, .int x3]) (QI D cy A (cnC nS nL) ad r M') 0 0 A := by
  refine tb_start [.ref (ad 11 0), .int x1, .int x2, .int x3] [(0, .ref (ad 11 0)), (1, .int x1), (2, .int x2), (3, .int x3)] RX11 rfl (by decide +kernel) (Nat.le_of_ble_eq_true rfl) rfl (fun p e s m args below meth c hx hb hr hml hown hts hlk hW hK hZ ls hl => ?_)
  have hS : va_S A s.heap s.heap [] := va_S.rf
  unfold fX11_name at h
  refine lv_aload_n hx hb dX11_name_0 rfl (lv_at hl 0 rfl) ?_
  refine gtX11_10 hx hb hts hown hK hW cz11 dX11_name_1 ?_
  refine lv_iload_n hx hb dX11_name_4 rfl (lv_at hl 1 rfl) ?_
  replace h := bd_a h
  obtain ⟨o1, hco1, h⟩ := h
  refine tb_cVR hZk hx hb hml hown hts hK hZ hW hS [.int x1] (mX5_stoneAt (l := l) hZk x1 M0 o1 hco1) pmX5_stoneAt tw502 (Wd.recv hK hW (t := 5) (by decide) cz5 (C := RX5) (T := TX5) (N := 7) rfl) ⟨Nat.le_of_ble_eq_true rfl, Nat.le_of_ble_eq_true rfl⟩ rfl hl.1 (Nat.le_of_ble_eq_true rfl) ⟨Nat.le_refl _, Nat.le_refl _⟩ rfl dX11_name_5 (fun H locs hW hS hrr => ?_)
  have ho1 := hrr
  refine tb_astore (lv' := [(4, rv (ad 8) o1), (0, .ref (ad 11 0)), (1, .int x1), (2, .int x2), (3, .int x3)]) hx hb dX11_name_8 hl (by decide) rfl (fun ls hl => ?_)
  refine tb_aload hx hb dX11_name_10 (lv_at hl 0 rfl) ?_
  refine tb_ifnull (tgt := 33) hx hb dX11_name_12 (by decide) (fun e0 => ?_) (fun a2 ea2 => ?_)
  · replace h := oc_n e0 h
    subst e0
    refine lv_iconst (v := (-1 : Int32)) hx hb dX11_name_33 (by decide) ?_
    exact tb_iretE h hx hb hr hS hW hlk dX11_name_34
  · replace h := oc_s ea2 h
    subst ea2
    have la2 := ho1 _ rfl
    refine lv_iload_n hx hb dX11_name_15 rfl (lv_at hl 3 rfl) ?_
    refine tb_cSZ hZk hx hb hml hown hts hK hZ hW hS [.int x2] (mX11_isName (l := l) hZk x2 M0 (fX11_isName x2) rfl) pmX11_isName tw1051 ⟨Nat.le_of_ble_eq_true rfl, Nat.le_of_ble_eq_true rfl⟩ rfl hl.1 (Nat.le_of_ble_eq_true rfl) ⟨Nat.le_refl _, Nat.le_refl _⟩ rfl dX11_name_16 (fun H locs hW hS hzz => ?_)
    refine lv_topi (fun b3 eb3 => ?_)
    replace h := nm_a eb3 h
    have hzb3 : b3 = 0 ∨ b3 = 1 := by rw [eb3]; exact hzz
    refine lv_if_eq (tgt := 33) hx hb dX11_name_19 (by decide) (fun c4 => ?_) (fun c4 => ?_)
    · replace h := sh_t c4 h
      refine lv_iconst (v := (-1 : Int32)) hx hb dX11_name_33 (by decide) ?_
      exact tb_iretE h hx hb hr hS hW hlk dX11_name_34
    · replace h := sh_f c4 h
      refine lv_iload_n hx hb dX11_name_22 rfl (lv_at hl 4 rfl) ?_
      refine lv_iconst (v := (1 : Int32)) hx hb dX11_name_23 (by decide) ?_
      refine lv_icmp_lt (tgt := 33) hx hb dX11_name_24 (by decide) (fun c5 => ?_) (fun c5 => ?_)
      · replace h := sh_t c5 h
        refine lv_iconst (v := (-1 : Int32)) hx hb dX11_name_33 (by decide) ?_
        exact tb_iretE h hx hb hr hS hW hlk dX11_name_34
      · replace h := sh_f c5 h
        refine lv_iload_n hx hb dX11_name_27 rfl (lv_at hl 4 rfl) ?_
        refine lv_bipush (v := (9 : Int32)) hx hb dX11_name_28 (by decide) ?_
        refine lv_icmp_le (tgt := 35) hx hb dX11_name_30 (by decide) (fun c6 => ?_) (fun c6 => ?_)
        · replace h := sh_t c6 h
          refine lv_aload hx hb dX11_name_35 (lv_at hl 0 rfl) ?_
          refine gtX11_311 hx hb hts hown hK hW la2 dX11_name_37 ?_
          refine lv_iload_n hx hb dX11_name_40 rfl (lv_at hl 3 rfl) ?_
          refine lv_iload_n hx hb dX11_name_41 rfl (lv_at hl 4 rfl) ?_
          replace h := ix_a h
          obtain ⟨hj, h⟩ := h
          refine as40 hx hb hK hW hS la2 hj dX11_name_42 (fun H locs hW hS => ?_)
          obtain ⟨M7, eM7⟩ : ∃ y, y = msI M0 4000 a2 x2.toNatClampNeg x3 := ⟨_, rfl⟩
          replace h := nm_a eM7 h
          rw [← eM7] at hW
          refine lv_aload hx hb dX11_name_43 (lv_at hl 0 rfl) ?_
          refine lv_dup hx hb dX11_name_45 rfl ?_
          refine gtX11_314 hx hb hts hown hK hW la2 dX11_name_46 ?_
          refine lv_iconst (v := (1 : Int32)) hx hb dX11_name_49 (by decide) ?_
          refine lv_iload_n hx hb dX11_name_50 rfl (lv_at hl 3 rfl) ?_
          refine lv_ishl hx hb dX11_name_51 ?_
          refine lv_ior hx hb dX11_name_52 ?_
          refine lv_topi (fun v8 ev8 => ?_)
          replace h := nm_a ev8 h
          refine ptX11_314 hx hb hts hown hK hW hS la2 dX11_name_53 (fun H locs hW hS => ?_)
          obtain ⟨M9, eM9⟩ : ∃ y, y = msI M7 806 a2 0 v8 := ⟨_, rfl⟩
          replace h := nm_a eM9 h
          rw [← eM9] at hW
          refine lv_aload hx hb dX11_name_56 (lv_at hl 0 rfl) ?_
          refine gtX11_314 hx hb hts hown hK hW la2 dX11_name_58 ?_
          refine tb_cSI hZk hx hb hml hown hts hK hZ hW hS [.int (mgI M9 806 a2 0)] (mJ6_bitCount_0f7a4 (l := l) hZk (mgI M9 806 a2 0) M9 (fJ6_bitCount_0f7a4 (mgI M9 806 a2 0)) rfl) pmJ6_bitCount_0f7a4 tw1054 ⟨Nat.le_of_ble_eq_true rfl, Nat.le_of_ble_eq_true rfl⟩ rfl hl.1 (Nat.le_of_ble_eq_true rfl) ⟨Nat.le_refl _, Nat.le_refl _⟩ rfl dX11_name_61 (fun H locs hW hS => ?_)
          exact tb_iretE h hx hb hr hS hW hlk dX11_name_64
        · replace h := sh_f c6 h
          refine lv_iconst (v := (-1 : Int32)) hx hb dX11_name_33 (by decide) ?_
          exact tb_iretE h hx hb hr hS hW hlk dX11_name_34
def fX11_share (x1 : Int32) (x2 : Int32) (M0 : Mem) : Option Int32 :=
  bd (fX5_stoneAt x1 M0) fun o1 => oc o1 (some (-1 : Int32)) fun a2 => nm (fX11_isName x2) fun b3 => if b3 = 0 then (some (-1 : Int32)) else (ix x2 20 <| if (mgI M0 4000 a2 x2.toNatClampNeg) = 0 then (some (-1 : Int32)) else (bd (fX8_partOf a2 x2 M0) fun b6 => some b6))
set_option maxHeartbeats 4000000 in
set_option maxRecDepth 100000 in
theorem mX11_share {l : Launch} {D : va_G} {cy : Nat → ClassId} {A : Nat → Prop} {K : KC} {nS nL : Nat} {ad : Nat → Nat → Nat} (hZk : ZOK A (ZC A K)) (x1 : Int32) (x2 : Int32) (M0 : Mem) (r : Int32) (h : fX11_share x1 x2 M0 = some r) : Met l yX11_share (wt yX11_share cX11_share 4 (some .int)) (rm 1 23) (CPre D cy A (ZC A K) (cnC nS nL) ad M0 [.ref (ad 11 0), .int x1, .int x2]) (QI D cy A (cnC nS nL) ad r M0) 0 0 A := by
  refine tb_start [.ref (ad 11 0), .int x1, .int x2] [(0, .ref (ad 11 0)), (1, .int x1), (2, .int x2)] RX11 rfl (by decide +kernel) (Nat.le_of_ble_eq_true rfl) rfl (fun p e s m args below meth c hx hb hr hml hown hts hlk hW hK hZ ls hl => ?_)
  have hS : va_S A s.heap s.heap [] := va_S.rf
  unfold fX11_share at h
  refine lv_aload_n hx hb dX11_share_0 rfl (lv_at hl 0 rfl) ?_
  refine gtX11_10 hx hb hts hown hK hW cz11 dX11_share_1 ?_
  refine lv_iload_n hx hb dX11_share_4 rfl (lv_at hl 1 rfl) ?_
  replace h := bd_a h
  obtain ⟨o1, hco1, h⟩ := h
  refine tb_cVR hZk hx hb hml hown hts hK hZ hW hS [.int x1] (mX5_stoneAt (l := l) hZk x1 M0 o1 hco1) pmX5_stoneAt tw502 (Wd.recv hK hW (t := 5) (by decide) cz5 (C := RX5) (T := TX5) (N := 7) rfl) ⟨Nat.le_of_ble_eq_true rfl, Nat.le_of_ble_eq_true rfl⟩ rfl hl.1 (Nat.le_of_ble_eq_true rfl) ⟨Nat.le_refl _, Nat.le_refl _⟩ rfl dX11_share_5 (fun H locs hW hS hrr => ?_)
  have ho1 := hrr
  refine tb_astore_n (lv' := [(3, rv (ad 8) o1), (0, .ref (ad 11 0)), (1, .int x1), (2, .int x2)]) hx hb dX11_share_8 rfl hl (by decide) rfl (fun ls hl => ?_)
  refine tb_aload_n hx hb dX11_share_9 rfl (lv_at hl 0 rfl) ?_
  refine tb_ifnull (tgt := 29) hx hb dX11_share_10 (by decide) (fun e0 => ?_) (fun a2 ea2 => ?_)
  · replace h := oc_n e0 h
    subst e0
    refine lv_iconst (v := (-1 : Int32)) hx hb dX11_share_29 (by decide) ?_
    exact tb_iretO h hx hb hr hS hW hlk dX11_share_30
  · replace h := oc_s ea2 h
    subst ea2
    have la2 := ho1 _ rfl
    refine lv_iload_n hx hb dX11_share_13 rfl (lv_at hl 3 rfl) ?_
    refine tb_cSZ hZk hx hb hml hown hts hK hZ hW hS [.int x2] (mX11_isName (l := l) hZk x2 M0 (fX11_isName x2) rfl) pmX11_isName tw1051 ⟨Nat.le_of_ble_eq_true rfl, Nat.le_of_ble_eq_true rfl⟩ rfl hl.1 (Nat.le_of_ble_eq_true rfl) ⟨Nat.le_refl _, Nat.le_refl _⟩ rfl dX11_share_14 (fun H locs hW hS hzz => ?_)
    refine lv_topi (fun b3 eb3 => ?_)
    replace h := nm_a eb3 h
    have hzb3 : b3 = 0 ∨ b3 = 1 := by rw [eb3]; exact hzz
    refine lv_if_eq (tgt := 29) hx hb dX11_share_17 (by decide) (fun c4 => ?_) (fun c4 => ?_)
    · replace h := sh_t c4 h
      refine lv_iconst (v := (-1 : Int32)) hx hb dX11_share_29 (by decide) ?_
      exact tb_iretO h hx hb hr hS hW hlk dX11_share_30
    · replace h := sh_f c4 h
      refine lv_aload_n hx hb dX11_share_20 rfl (lv_at hl 0 rfl) ?_
      refine gtX11_311 hx hb hts hown hK hW la2 dX11_share_21 ?_
      refine lv_iload_n hx hb dX11_share_24 rfl (lv_at hl 3 rfl) ?_
      replace h := ix_a h
      obtain ⟨hj, h⟩ := h
      refine al40 hx hb hK hW la2 hj dX11_share_25 ?_
      refine lv_if_ne (tgt := 31) hx hb dX11_share_26 (by decide) (fun c5 => ?_) (fun c5 => ?_)
      · replace h := sh_f c5 h
        refine lv_aload_n hx hb dX11_share_31 rfl (lv_at hl 0 rfl) ?_
        refine lv_iload_n hx hb dX11_share_32 rfl (lv_at hl 3 rfl) ?_
        replace h := bd_a h
        obtain ⟨b6, hcb6, h⟩ := h
        refine tb_cVI hZk hx hb hml hown hts hK hZ hW hS [.int x2] (mX8_partOf (l := l) hZk a2 x2 M0 la2 b6 hcb6) pmX8_partOf tw1059 (Wd.recv hK hW (t := 8) (by decide) la2 (C := RX8) (T := TX8) (N := 16) rfl) ⟨Nat.le_of_ble_eq_true rfl, Nat.le_of_ble_eq_true rfl⟩ rfl hl.1 (Nat.le_of_ble_eq_true rfl) ⟨Nat.le_refl _, Nat.le_refl _⟩ rfl dX11_share_33 (fun H locs hW hS => ?_)
        exact tb_iretO h hx hb hr hS hW hlk dX11_share_36
      · replace h := sh_t c5 h
        refine lv_iconst (v := (-1 : Int32)) hx hb dX11_share_29 (by decide) ?_
        exact tb_iretO h hx hb hr hS hW hlk dX11_share_30
def fX11_hands (x1 : Int32) (x2 : Int32) (M0 : Mem) : Option (Int32 × Mem) :=
  nm (fX11_isName x1) fun b1 => if b1 = 0 then (some ((-1 : Int32), M0)) else (if (-1 : Int32) ≤ x2 then (bd (fX5_namesBeside x1 M0) fun b4 => bd (fX5_firstsBy b4 M0) fun g5 => nm (fJ13_bitCount_95d88 g5) fun v6 => if x2 = (-1 : Int32) then (some (v6, M0)) else (if v6 ≤ x2 then (some ((-1 : Int32), M0)) else (bE (fX5_ithMostStoodOn g5 x2 M0) fun b9 M10 => some (b9, M10)))) else (some ((-1 : Int32), M0)))
set_option maxHeartbeats 4000000 in
set_option maxRecDepth 100000 in
theorem mX11_hands {l : Launch} {D : va_G} {cy : Nat → ClassId} {A : Nat → Prop} {K : KC} {nS nL : Nat} {ad : Nat → Nat → Nat} (hZk : ZOK A (ZC A K)) (x1 : Int32) (x2 : Int32) (M0 : Mem) (r : Int32) (M' : Mem) (h : fX11_hands x1 x2 M0 = some (r, M')) : Met l yX11_hands (wt yX11_hands cX11_hands 6 (some .int)) (rm 3 71) (CPre D cy A (ZC A K) (cnC nS nL) ad M0 [.ref (ad 11 0), .int x1, .int x2]) (QI D cy A (cnC nS nL) ad r M') 0 0 A := by
  refine tb_start [.ref (ad 11 0), .int x1, .int x2] [(0, .ref (ad 11 0)), (1, .int x1), (2, .int x2)] RX11 rfl (by decide +kernel) (Nat.le_of_ble_eq_true rfl) rfl (fun p e s m args below meth c hx hb hr hml hown hts hlk hW hK hZ ls hl => ?_)
  have hS : va_S A s.heap s.heap [] := va_S.rf
  unfold fX11_hands at h
  refine lv_iload_n hx hb dX11_hands_0 rfl (lv_at hl 1 rfl) ?_
  refine tb_cSZ hZk hx hb hml hown hts hK hZ hW hS [.int x1] (mX11_isName (l := l) hZk x1 M0 (fX11_isName x1) rfl) pmX11_isName tw1051 ⟨Nat.le_of_ble_eq_true rfl, Nat.le_of_ble_eq_true rfl⟩ rfl hl.1 (Nat.le_of_ble_eq_true rfl) ⟨Nat.le_refl _, Nat.le_refl _⟩ rfl dX11_hands_1 (fun H locs hW hS hzz => ?_)
  refine lv_topi (fun b1 eb1 => ?_)
  replace h := nm_a eb1 h
  have hzb1 : b1 = 0 ∨ b1 = 1 := by rw [eb1]; exact hzz
  refine lv_if_eq (tgt := 12) hx hb dX11_hands_4 (by decide) (fun c2 => ?_) (fun c2 => ?_)
  · replace h := sh_t c2 h
    refine lv_iconst (v := (-1 : Int32)) hx hb dX11_hands_12 (by decide) ?_
    exact tb_iretE h hx hb hr hS hW hlk dX11_hands_13
  · replace h := sh_f c2 h
    refine lv_iload_n hx hb dX11_hands_7 rfl (lv_at hl 2 rfl) ?_
    refine lv_iconst (v := (-1 : Int32)) hx hb dX11_hands_8 (by decide) ?_
    refine lv_icmp_ge (tgt := 14) hx hb dX11_hands_9 (by decide) (fun c3 => ?_) (fun c3 => ?_)
    · replace h := sh_t c3 h
      refine lv_aload_n hx hb dX11_hands_14 rfl (lv_at hl 0 rfl) ?_
      refine gtX11_10 hx hb hts hown hK hW cz11 dX11_hands_15 ?_
      refine lv_aload_n hx hb dX11_hands_18 rfl (lv_at hl 0 rfl) ?_
      refine gtX11_10 hx hb hts hown hK hW cz11 dX11_hands_19 ?_
      refine lv_iload_n hx hb dX11_hands_22 rfl (lv_at hl 1 rfl) ?_
      replace h := bd_a h
      obtain ⟨b4, hcb4, h⟩ := h
      refine tb_cVI hZk hx hb hml hown hts hK hZ hW hS [.int x1] (mX5_namesBeside (l := l) hZk x1 M0 b4 hcb4) pmX5_namesBeside tw1067 (Wd.recv hK hW (t := 5) (by decide) cz5 (C := RX5) (T := TX5) (N := 7) rfl) ⟨Nat.le_of_ble_eq_true rfl, Nat.le_of_ble_eq_true rfl⟩ rfl hl.1 (Nat.le_of_ble_eq_true rfl) ⟨Nat.le_refl _, Nat.le_refl _⟩ rfl dX11_hands_23 (fun H locs hW hS => ?_)
      replace h := bd_a h
      obtain ⟨g5, hcg5, h⟩ := h
      refine tb_cVL hZk hx hb hml hown hts hK hZ hW hS [.int b4] (mX5_firstsBy (l := l) hZk b4 M0 g5 hcg5) pmX5_firstsBy tw1071 (Wd.recv hK hW (t := 5) (by decide) cz5 (C := RX5) (T := TX5) (N := 7) rfl) ⟨Nat.le_of_ble_eq_true rfl, Nat.le_of_ble_eq_true rfl⟩ rfl hl.1 (Nat.le_of_ble_eq_true rfl) ⟨Nat.le_refl _, Nat.le_refl _⟩ rfl dX11_hands_26 (fun H locs hW hS => ?_)
      refine lv_lstore_n (lv' := [(3, .long g5), (0, .ref (ad 11 0)), (1, .int x1), (2, .int x2)]) hx hb dX11_hands_29 rfl hl (by decide) rfl (fun ls hl => ?_)
      refine lv_lload_n hx hb dX11_hands_30 rfl (lv_at hl 0 rfl) ?_
      refine tb_cSI hZk hx hb hml hown hts hK hZ hW hS [.long g5] (mJ13_bitCount_95d88 (l := l) hZk g5 M0 (fJ13_bitCount_95d88 g5) rfl) pmJ13_bitCount_95d88 tw662 ⟨Nat.le_of_ble_eq_true rfl, Nat.le_of_ble_eq_true rfl⟩ rfl hl.1 (Nat.le_of_ble_eq_true rfl) ⟨Nat.le_refl _, Nat.le_refl _⟩ rfl dX11_hands_31 (fun H locs hW hS => ?_)
      refine lv_topi (fun v6 ev6 => ?_)
      replace h := nm_a ev6 h
      refine lv_istore (lv' := [(5, .int v6), (3, .long g5), (0, .ref (ad 11 0)), (1, .int x1), (2, .int x2)]) hx hb dX11_hands_34 hl (by decide) rfl (fun ls hl => ?_)
      refine lv_iload_n hx hb dX11_hands_36 rfl (lv_at hl 4 rfl) ?_
      refine lv_iconst (v := (-1 : Int32)) hx hb dX11_hands_37 (by decide) ?_
      refine lv_icmp_ne (tgt := 44) hx hb dX11_hands_38 (by decide) (fun c7 => ?_) (fun c7 => ?_)
      · replace h := sh_f c7 h
        refine lv_iload_n hx hb dX11_hands_44 rfl (lv_at hl 4 rfl) ?_
        refine lv_iload hx hb dX11_hands_45 (lv_at hl 0 rfl) ?_
        refine lv_icmp_ge (tgt := 62) hx hb dX11_hands_47 (by decide) (fun c8 => ?_) (fun c8 => ?_)
        · replace h := sh_t c8 h
          refine lv_iconst (v := (-1 : Int32)) hx hb dX11_hands_62 (by decide) ?_
          exact tb_iretE h hx hb hr hS hW hlk dX11_hands_63
        · replace h := sh_f c8 h
          refine lv_aload_n hx hb dX11_hands_50 rfl (lv_at hl 2 rfl) ?_
          refine gtX11_10 hx hb hts hown hK hW cz11 dX11_hands_51 ?_
          refine lv_lload_n hx hb dX11_hands_54 rfl (lv_at hl 1 rfl) ?_
          refine lv_iload_n hx hb dX11_hands_55 rfl (lv_at hl 4 rfl) ?_
          replace h := bE_a h
          obtain ⟨b9, M10, hcb9, h⟩ := h
          refine tb_cVI hZk hx hb hml hown hts hK hZ hW hS [.long g5, .int x2] (mX5_ithMostStoodOn (l := l) hZk g5 x2 M0 b9 M10 hcb9) pmX5_ithMostStoodOn tw1075 (Wd.recv hK hW (t := 5) (by decide) cz5 (C := RX5) (T := TX5) (N := 7) rfl) ⟨Nat.le_of_ble_eq_true rfl, Nat.le_of_ble_eq_true rfl⟩ rfl hl.1 (Nat.le_of_ble_eq_true rfl) ⟨Nat.le_refl _, Nat.le_refl _⟩ rfl dX11_hands_56 (fun H locs hW hS => ?_)
          refine lv_goto (tgt := 63) hx hb dX11_hands_59 (by decide) ?_
          exact tb_iretE h hx hb hr hS hW hlk dX11_hands_63
      · replace h := sh_t c7 h
        refine lv_iload hx hb dX11_hands_41 (lv_at hl 0 rfl) ?_
        exact tb_iretE h hx hb hr hS hW hlk dX11_hands_43
    · replace h := sh_f c3 h
      refine lv_iconst (v := (-1 : Int32)) hx hb dX11_hands_12 (by decide) ?_
      exact tb_iretE h hx hb hr hS hW hlk dX11_hands_13
def fX11_fair_b13 (M0 : Mem) (x1 : Int32) (k3 : Int32 → Int32 → Option Int32) (i4 : Int32) (i5 : Int32) : Option Int32 :=
  if (mgI M0 502 0 0) ≤ i5 then (some i4) else (nm (fX11_isIn (mgL M0 505 0 0) i5) fun b7 => if b7 = 0 then (nm (i5 + (1 : Int32)) fun v9 => k3 i4 v9) else (ix i5 64 <| nm (mgR M0 3200 0 i5.toNatClampNeg) fun o10 => oc o10 none fun a11 => bd (fX8_partOf a11 x1 M0) fun b12 => nm (i4 + b12) fun v13 => nm (i5 + (1 : Int32)) fun v14 => k3 v13 v14))
def fX11_fair_l13 (M0 : Mem) (x1 : Int32) : Nat → Int32 → Int32 → Option Int32
  | 0, _, _ => none
  | n + 1, i4, i5 => fX11_fair_b13 M0 x1 (fX11_fair_l13 M0 x1 n) i4 i5
def fX11_fair (x1 : Int32) (M0 : Mem) : Option Int32 :=
  nm (fX11_isName x1) fun b1 => if b1 = 0 then (some (-1 : Int32)) else (fX11_fair_l13 M0 x1 FU (0 : Int32) (0 : Int32))
set_option maxHeartbeats 4000000 in
set_option maxRecDepth 100000 in
theorem mX11_fair {l : Launch} {D : va_G} {cy : Nat → ClassId} {A : Nat → Prop} {K : KC} {nS nL : Nat} {ad : Nat → Nat → Nat} (hZk : ZOK A (ZC A K)) (x1 : Int32) (M0 : Mem) (r : Int32) (h : fX11_fair x1 M0 = some r) : Met l yX11_fair (wt yX11_fair cX11_fair 4 (some .int)) (rm 1 23) (CPre D cy A (ZC A K) (cnC nS nL) ad M0 [.ref (ad 11 0), .int x1]) (QI D cy A (cnC nS nL) ad r M0) 0 0 A := by
  refine tb_start [.ref (ad 11 0), .int x1] [(0, .ref (ad 11 0)), (1, .int x1)] RX11 rfl (by decide +kernel) (Nat.le_of_ble_eq_true rfl) rfl (fun p e s m args below meth c hx hb hr hml hown hts hlk hW hK hZ ls hl => ?_)
  have hS : va_S A s.heap s.heap [] := va_S.rf
  unfold fX11_fair at h
  refine lv_iload_n hx hb dX11_fair_0 rfl (lv_at hl 1 rfl) ?_
  refine tb_cSZ hZk hx hb hml hown hts hK hZ hW hS [.int x1] (mX11_isName (l := l) hZk x1 M0 (fX11_isName x1) rfl) pmX11_isName tw1051 ⟨Nat.le_of_ble_eq_true rfl, Nat.le_of_ble_eq_true rfl⟩ rfl hl.1 (Nat.le_of_ble_eq_true rfl) ⟨Nat.le_refl _, Nat.le_refl _⟩ rfl dX11_fair_1 (fun H locs hW hS hzz => ?_)
  refine lv_topi (fun b1 eb1 => ?_)
  replace h := nm_a eb1 h
  have hzb1 : b1 = 0 ∨ b1 = 1 := by rw [eb1]; exact hzz
  refine lv_if_ne (tgt := 9) hx hb dX11_fair_4 (by decide) (fun c2 => ?_) (fun c2 => ?_)
  · replace h := sh_f c2 h
    refine lv_iconst (v := (0 : Int32)) hx hb dX11_fair_9 (by decide) ?_
    refine lv_istore_n (lv' := [(2, .int (0 : Int32)), (0, .ref (ad 11 0)), (1, .int x1)]) hx hb dX11_fair_10 rfl hl (by decide) rfl (fun ls hl => ?_)
    refine lv_iconst (v := (0 : Int32)) hx hb dX11_fair_11 (by decide) ?_
    refine lv_istore_n (lv' := [(3, .int (0 : Int32)), (2, .int (0 : Int32)), (0, .ref (ad 11 0)), (1, .int x1)]) hx hb dX11_fair_12 rfl hl (by decide) rfl (fun ls hl => ?_)
    have L3 : ∀ (n3 : Nat) (i4 : Int32) (i5 : Int32) (H : Heap) (locs : List Loc) (ls : Array Slot), Wd D cy A (cnC nS nL) ad M0 H → va_S A s.heap H locs → lv_has ls 4 [(0, .ref (ad 11 0)), (1, .int x1), (2, .int i4), (3, .int i5)] → fX11_fair_l13 M0 x1 n3 i4 i5 = some r → W p l e (rm 1 23) s m args below meth c H locs 0 0 (MQ below (QI D cy A (cnC nS nL) ad r M0) args s 0 0 A) (F0 m 13 ls []) := by
      intro n3
      induction n3 with
      | zero => intro i4 i5 H locs ls hW hS hl h; cases h
      | succ n3 ih3 =>
        intro i4 i5 H locs ls hW hS hl h
        unfold fX11_fair_l13 fX11_fair_b13 at h
        refine lv_iload_n hx hb dX11_fair_13 rfl (lv_at hl 3 rfl) ?_
        refine lv_aload_n hx hb dX11_fair_14 rfl (lv_at hl 0 rfl) ?_
        refine gtX11_10 hx hb hts hown hK hW cz11 dX11_fair_15 ?_
        refine gtX11_73 hx hb hts hown hK hW cz5 dX11_fair_18 ?_
        refine lv_icmp_ge (tgt := 60) hx hb dX11_fair_21 (by decide) (fun c6 => ?_) (fun c6 => ?_)
        · replace h := sh_t c6 h
          refine lv_iload_n hx hb dX11_fair_60 rfl (lv_at hl 2 rfl) ?_
          exact tb_iretO h hx hb hr hS hW hlk dX11_fair_61
        · replace h := sh_f c6 h
          refine lv_aload_n hx hb dX11_fair_24 rfl (lv_at hl 0 rfl) ?_
          refine gtX11_10 hx hb hts hown hK hW cz11 dX11_fair_25 ?_
          refine gtX11_212 hx hb hts hown hK hW cz5 dX11_fair_28 ?_
          refine lv_iload_n hx hb dX11_fair_31 rfl (lv_at hl 3 rfl) ?_
          refine tb_cSZ hZk hx hb hml hown hts hK hZ hW hS [.long (mgL M0 505 0 0), .int i5] (mX11_isIn (l := l) hZk (mgL M0 505 0 0) i5 M0 (fX11_isIn (mgL M0 505 0 0) i5) rfl) pmX11_isIn tw740 ⟨Nat.le_of_ble_eq_true rfl, Nat.le_of_ble_eq_true rfl⟩ rfl hl.1 (Nat.le_of_ble_eq_true rfl) ⟨Nat.le_refl _, Nat.le_refl _⟩ rfl dX11_fair_32 (fun H locs hW hS hzz => ?_)
          refine lv_topi (fun b7 eb7 => ?_)
          replace h := nm_a eb7 h
          have hzb7 : b7 = 0 ∨ b7 = 1 := by rw [eb7]; exact hzz
          refine lv_if_eq (tgt := 54) hx hb dX11_fair_35 (by decide) (fun c8 => ?_) (fun c8 => ?_)
          · replace h := sh_t c8 h
            obtain ⟨v9, ev9⟩ : ∃ y : Int32, y = i5 + (1 : Int32) := ⟨_, rfl⟩
            replace h := nm_a ev9 h
            refine lv_iinc (v := v9) (lv' := [(3, .int v9), (0, .ref (ad 11 0)), (1, .int x1), (2, .int i4)]) hx hb dX11_fair_54 hl (k := 3) rfl (by rw [ev9]; rfl) (by decide) rfl (fun ls hl => ?_)
            refine lv_goto (tgt := 13) hx hb dX11_fair_57 (by decide) ?_
            exact ih3 i4 v9 _ _ _ hW hS (lv_sub hl [1, 2, 3, 0] rfl) h
          · replace h := sh_f c8 h
            refine lv_iload_n hx hb dX11_fair_38 rfl (lv_at hl 2 rfl) ?_
            refine lv_aload_n hx hb dX11_fair_39 rfl (lv_at hl 0 rfl) ?_
            refine gtX11_10 hx hb hts hown hK hW cz11 dX11_fair_40 ?_
            refine gtX11_337 hx hb hts hown hK hW cz5 dX11_fair_43 ?_
            refine lv_iload_n hx hb dX11_fair_46 rfl (lv_at hl 3 rfl) ?_
            replace h := ix_a h
            obtain ⟨hj, h⟩ := h
            refine al32 hx hb hK hW cz32 hj dX11_fair_47 (fun o10 eo10 ho10 => ?_)
            replace h := nm_a eo10 h
            refine lv_iload_n hx hb dX11_fair_48 rfl (lv_at hl 1 rfl) ?_
            replace h := oc_d h
            obtain ⟨a11, ea11, h⟩ := h
            subst ea11
            have la11 := ho10 _ rfl
            replace h := bd_a h
            obtain ⟨b12, hcb12, h⟩ := h
            refine tb_cVI hZk hx hb hml hown hts hK hZ hW hS [.int x1] (mX8_partOf (l := l) hZk a11 x1 M0 la11 b12 hcb12) pmX8_partOf tw1059 (Wd.recv hK hW (t := 8) (by decide) la11 (C := RX8) (T := TX8) (N := 16) rfl) ⟨Nat.le_of_ble_eq_true rfl, Nat.le_of_ble_eq_true rfl⟩ rfl hl.1 (Nat.le_of_ble_eq_true rfl) ⟨Nat.le_refl _, Nat.le_refl _⟩ rfl dX11_fair_49 (fun H locs hW hS => ?_)
            refine lv_iadd hx hb dX11_fair_52 ?_
            refine lv_topi (fun v13 ev13 => ?_)
            replace h := nm_a ev13 h
            refine lv_istore_n (lv' := [(2, .int v13), (0, .ref (ad 11 0)), (1, .int x1), (3, .int i5)]) hx hb dX11_fair_53 rfl hl (by decide) rfl (fun ls hl => ?_)
            obtain ⟨v14, ev14⟩ : ∃ y : Int32, y = i5 + (1 : Int32) := ⟨_, rfl⟩
            replace h := nm_a ev14 h
            refine lv_iinc (v := v14) (lv' := [(3, .int v14), (2, .int v13), (0, .ref (ad 11 0)), (1, .int x1)]) hx hb dX11_fair_54 hl (k := 3) rfl (by rw [ev14]; rfl) (by decide) rfl (fun ls hl => ?_)
            refine lv_goto (tgt := 13) hx hb dX11_fair_57 (by decide) ?_
            exact ih3 v13 v14 _ _ _ hW hS (lv_sub hl [2, 3, 1, 0] rfl) h
    exact L3 FU (0 : Int32) (0 : Int32) _ _ _ hW hS (lv_sub hl [2, 3, 1, 0] rfl) h
  · replace h := sh_t c2 h
    refine lv_iconst (v := (-1 : Int32)) hx hb dX11_fair_7 (by decide) ?_
    exact tb_iretO h hx hb hr hS hW hlk dX11_fair_8
def fX11_span (x1 : Int32) (x2 : Int32) (M0 : Mem) : Option Int32 :=
  bd (fX5_stoneAt x1 M0) fun o1 => oc o1 (some (-1 : Int32)) fun a2 => if x2 = (0 : Int32) then (bd (fX5_linesTo x1 (0 : Int32) M0) fun b4 => some b4) else if x2 = (1 : Int32) then (bd (fX5_linesTo x1 (0 : Int32) M0) fun b6 => bd (fX5_linesTo x1 (2 : Int32) M0) fun b7 => some (b6 + b7)) else if x2 = (2 : Int32) then (bd (fX5_linesTo x1 (2 : Int32) M0) fun b9 => some b9) else if x2 = (3 : Int32) then (bd (fX5_linesTo x1 (1 : Int32) M0) fun b11 => some b11) else some (-1 : Int32)
set_option maxHeartbeats 4000000 in
set_option maxRecDepth 100000 in
theorem mX11_span {l : Launch} {D : va_G} {cy : Nat → ClassId} {A : Nat → Prop} {K : KC} {nS nL : Nat} {ad : Nat → Nat → Nat} (hZk : ZOK A (ZC A K)) (x1 : Int32) (x2 : Int32) (M0 : Mem) (r : Int32) (h : fX11_span x1 x2 M0 = some r) : Met l yX11_span (wt yX11_span cX11_span 3 (some .int)) (rm 1 25) (CPre D cy A (ZC A K) (cnC nS nL) ad M0 [.ref (ad 11 0), .int x1, .int x2]) (QI D cy A (cnC nS nL) ad r M0) 0 0 A := by
  refine tb_start [.ref (ad 11 0), .int x1, .int x2] [(0, .ref (ad 11 0)), (1, .int x1), (2, .int x2)] RX11 rfl (by decide +kernel) (Nat.le_of_ble_eq_true rfl) rfl (fun p e s m args below meth c hx hb hr hml hown hts hlk hW hK hZ ls hl => ?_)
  have hS : va_S A s.heap s.heap [] := va_S.rf
  unfold fX11_span at h
  refine lv_aload_n hx hb dX11_span_0 rfl (lv_at hl 0 rfl) ?_
  refine gtX11_10 hx hb hts hown hK hW cz11 dX11_span_1 ?_
  refine lv_iload_n hx hb dX11_span_4 rfl (lv_at hl 1 rfl) ?_
  replace h := bd_a h
  obtain ⟨o1, hco1, h⟩ := h
  refine tb_cVR hZk hx hb hml hown hts hK hZ hW hS [.int x1] (mX5_stoneAt (l := l) hZk x1 M0 o1 hco1) pmX5_stoneAt tw502 (Wd.recv hK hW (t := 5) (by decide) cz5 (C := RX5) (T := TX5) (N := 7) rfl) ⟨Nat.le_of_ble_eq_true rfl, Nat.le_of_ble_eq_true rfl⟩ rfl hl.1 (Nat.le_of_ble_eq_true rfl) ⟨Nat.le_refl _, Nat.le_refl _⟩ rfl dX11_span_5 (fun H locs hW hS hrr => ?_)
  have ho1 := hrr
  refine tb_ifnonnull (tgt := 13) hx hb dX11_span_8 (by decide) (fun a2 ea2 => ?_) (fun e0 => ?_)
  · replace h := oc_s ea2 h
    subst ea2
    have la2 := ho1 _ rfl
    refine lv_iload_n hx hb dX11_span_13 rfl (lv_at hl 2 rfl) ?_
    by_cases c3 : x2 = (0 : Int32)
    · replace h := sh_t c3 h
      refine lv_tableIn (off := 30) (tgt := 44) hx hb dX11_span_14 (by rw [c3]; decide) (by rw [c3]; decide) (by rw [c3]; rfl) (by decide) ?_
      refine lv_aload_n hx hb dX11_span_44 rfl (lv_at hl 0 rfl) ?_
      refine gtX11_10 hx hb hts hown hK hW cz11 dX11_span_45 ?_
      refine lv_iload_n hx hb dX11_span_48 rfl (lv_at hl 1 rfl) ?_
      refine lv_iconst (v := (0 : Int32)) hx hb dX11_span_49 (by decide) ?_
      replace h := bd_a h
      obtain ⟨b4, hcb4, h⟩ := h
      refine tb_cVI hZk hx hb hml hown hts hK hZ hW hS [.int x1, .int (0 : Int32)] (mX5_linesTo (l := l) hZk x1 (0 : Int32) M0 b4 hcb4) pmX5_linesTo tw1093 (Wd.recv hK hW (t := 5) (by decide) cz5 (C := RX5) (T := TX5) (N := 7) rfl) ⟨Nat.le_of_ble_eq_true rfl, Nat.le_of_ble_eq_true rfl⟩ rfl hl.1 (Nat.le_of_ble_eq_true rfl) ⟨Nat.le_refl _, Nat.le_refl _⟩ rfl dX11_span_50 (fun H locs hW hS => ?_)
      exact tb_iretO h hx hb hr hS hW hlk dX11_span_53
    · replace h := sh_f c3 h
      by_cases c5 : x2 = (1 : Int32)
      · replace h := sh_t c5 h
        refine lv_tableIn (off := 40) (tgt := 54) hx hb dX11_span_14 (by rw [c5]; decide) (by rw [c5]; decide) (by rw [c5]; rfl) (by decide) ?_
        refine lv_aload_n hx hb dX11_span_54 rfl (lv_at hl 0 rfl) ?_
        refine gtX11_10 hx hb hts hown hK hW cz11 dX11_span_55 ?_
        refine lv_iload_n hx hb dX11_span_58 rfl (lv_at hl 1 rfl) ?_
        refine lv_iconst (v := (0 : Int32)) hx hb dX11_span_59 (by decide) ?_
        replace h := bd_a h
        obtain ⟨b6, hcb6, h⟩ := h
        refine tb_cVI hZk hx hb hml hown hts hK hZ hW hS [.int x1, .int (0 : Int32)] (mX5_linesTo (l := l) hZk x1 (0 : Int32) M0 b6 hcb6) pmX5_linesTo tw1093 (Wd.recv hK hW (t := 5) (by decide) cz5 (C := RX5) (T := TX5) (N := 7) rfl) ⟨Nat.le_of_ble_eq_true rfl, Nat.le_of_ble_eq_true rfl⟩ rfl hl.1 (Nat.le_of_ble_eq_true rfl) ⟨Nat.le_refl _, Nat.le_refl _⟩ rfl dX11_span_60 (fun H locs hW hS => ?_)
        refine lv_aload_n hx hb dX11_span_63 rfl (lv_at hl 0 rfl) ?_
        refine gtX11_10 hx hb hts hown hK hW cz11 dX11_span_64 ?_
        refine lv_iload_n hx hb dX11_span_67 rfl (lv_at hl 1 rfl) ?_
        refine lv_iconst (v := (2 : Int32)) hx hb dX11_span_68 (by decide) ?_
        replace h := bd_a h
        obtain ⟨b7, hcb7, h⟩ := h
        refine tb_cVI hZk hx hb hml hown hts hK hZ hW hS [.int x1, .int (2 : Int32)] (mX5_linesTo (l := l) hZk x1 (2 : Int32) M0 b7 hcb7) pmX5_linesTo tw1093 (Wd.recv hK hW (t := 5) (by decide) cz5 (C := RX5) (T := TX5) (N := 7) rfl) ⟨Nat.le_of_ble_eq_true rfl, Nat.le_of_ble_eq_true rfl⟩ rfl hl.1 (Nat.le_of_ble_eq_true rfl) ⟨Nat.le_refl _, Nat.le_refl _⟩ rfl dX11_span_69 (fun H locs hW hS => ?_)
        refine lv_iadd hx hb dX11_span_72 ?_
        exact tb_iretO h hx hb hr hS hW hlk dX11_span_73
      · replace h := sh_f c5 h
        by_cases c8 : x2 = (2 : Int32)
        · replace h := sh_t c8 h
          refine lv_tableIn (off := 60) (tgt := 74) hx hb dX11_span_14 (by rw [c8]; decide) (by rw [c8]; decide) (by rw [c8]; rfl) (by decide) ?_
          refine lv_aload_n hx hb dX11_span_74 rfl (lv_at hl 0 rfl) ?_
          refine gtX11_10 hx hb hts hown hK hW cz11 dX11_span_75 ?_
          refine lv_iload_n hx hb dX11_span_78 rfl (lv_at hl 1 rfl) ?_
          refine lv_iconst (v := (2 : Int32)) hx hb dX11_span_79 (by decide) ?_
          replace h := bd_a h
          obtain ⟨b9, hcb9, h⟩ := h
          refine tb_cVI hZk hx hb hml hown hts hK hZ hW hS [.int x1, .int (2 : Int32)] (mX5_linesTo (l := l) hZk x1 (2 : Int32) M0 b9 hcb9) pmX5_linesTo tw1093 (Wd.recv hK hW (t := 5) (by decide) cz5 (C := RX5) (T := TX5) (N := 7) rfl) ⟨Nat.le_of_ble_eq_true rfl, Nat.le_of_ble_eq_true rfl⟩ rfl hl.1 (Nat.le_of_ble_eq_true rfl) ⟨Nat.le_refl _, Nat.le_refl _⟩ rfl dX11_span_80 (fun H locs hW hS => ?_)
          exact tb_iretO h hx hb hr hS hW hlk dX11_span_83
        · replace h := sh_f c8 h
          by_cases c10 : x2 = (3 : Int32)
          · replace h := sh_t c10 h
            refine lv_tableIn (off := 70) (tgt := 84) hx hb dX11_span_14 (by rw [c10]; decide) (by rw [c10]; decide) (by rw [c10]; rfl) (by decide) ?_
            refine lv_aload_n hx hb dX11_span_84 rfl (lv_at hl 0 rfl) ?_
            refine gtX11_10 hx hb hts hown hK hW cz11 dX11_span_85 ?_
            refine lv_iload_n hx hb dX11_span_88 rfl (lv_at hl 1 rfl) ?_
            refine lv_iconst (v := (1 : Int32)) hx hb dX11_span_89 (by decide) ?_
            replace h := bd_a h
            obtain ⟨b11, hcb11, h⟩ := h
            refine tb_cVI hZk hx hb hml hown hts hK hZ hW hS [.int x1, .int (1 : Int32)] (mX5_linesTo (l := l) hZk x1 (1 : Int32) M0 b11 hcb11) pmX5_linesTo tw1093 (Wd.recv hK hW (t := 5) (by decide) cz5 (C := RX5) (T := TX5) (N := 7) rfl) ⟨Nat.le_of_ble_eq_true rfl, Nat.le_of_ble_eq_true rfl⟩ rfl hl.1 (Nat.le_of_ble_eq_true rfl) ⟨Nat.le_refl _, Nat.le_refl _⟩ rfl dX11_span_90 (fun H locs hW hS => ?_)
            exact tb_iretO h hx hb hr hS hW hlk dX11_span_93
          · replace h := sh_f c10 h
            refine lv_tableOut (tgt := 94) hx hb dX11_span_14 (sw_out x2 (by decide) (fun z h1 h2 => by
              rcases (show z = 0 ∨ z = 1 ∨ z = 2 ∨ z = 3 by omega) with rfl | rfl | rfl | rfl <;> first | exact fun e => c3 (Int32.toInt_inj.mp (e.trans (by decide))) | exact fun e => c5 (Int32.toInt_inj.mp (e.trans (by decide))) | exact fun e => c8 (Int32.toInt_inj.mp (e.trans (by decide))) | exact fun e => c10 (Int32.toInt_inj.mp (e.trans (by decide))))) (by decide) ?_
            refine lv_iconst (v := (-1 : Int32)) hx hb dX11_span_94 (by decide) ?_
            exact tb_iretO h hx hb hr hS hW hlk dX11_span_95
  · replace h := oc_n e0 h
    subst e0
    refine lv_iconst (v := (-1 : Int32)) hx hb dX11_span_11 (by decide) ?_
    exact tb_iretO h hx hb hr hS hW hlk dX11_span_12
def fX11_undo (M0 : Mem) : Option (Int32 × Mem) :=
  bE (fX1_goBack M0) fun b1 M2 => if b1 = 0 then (some ((-5 : Int32), M2)) else (some (mgI M2 100 0 0, M2))
set_option maxHeartbeats 4000000 in
set_option maxRecDepth 100000 in
theorem mX11_undo {l : Launch} {D : va_G} {cy : Nat → ClassId} {A : Nat → Prop} {K : KC} {nS nL : Nat} {ad : Nat → Nat → Nat} (hZk : ZOK A (ZC A K)) (M0 : Mem) (r : Int32) (M' : Mem) (h : fX11_undo M0 = some (r, M')) : Met l yX11_undo (wt yX11_undo cX11_undo 1 (some .int)) (rm 3 65) (CPre D cy A (ZC A K) (cnC nS nL) ad M0 [.ref (ad 11 0)]) (QI D cy A (cnC nS nL) ad r M') 0 0 A := by
  refine tb_start [.ref (ad 11 0)] [(0, .ref (ad 11 0))] RX11 rfl (by decide +kernel) (Nat.le_of_ble_eq_true rfl) rfl (fun p e s m args below meth c hx hb hr hml hown hts hlk hW hK hZ ls hl => ?_)
  have hS : va_S A s.heap s.heap [] := va_S.rf
  unfold fX11_undo at h
  refine lv_aload_n hx hb dX11_undo_0 rfl (lv_at hl 0 rfl) ?_
  refine gtX11_51 hx hb hts hown hK hW cz11 dX11_undo_1 ?_
  replace h := bE_a h
  obtain ⟨b1, M2, hcb1, h⟩ := h
  refine tb_cVZ hZk hx hb hml hown hts hK hZ hW hS [] (mX1_goBack (l := l) hZk M0 b1 M2 hcb1) pmX1_goBack tw1101 (Wd.recv hK hW (t := 1) (by decide) cz1 (C := RX1) (T := TX1) (N := 8) rfl) ⟨Nat.le_of_ble_eq_true rfl, Nat.le_of_ble_eq_true rfl⟩ rfl hl.1 (Nat.le_of_ble_eq_true rfl) ⟨Nat.le_refl _, Nat.le_refl _⟩ rfl dX11_undo_4 (fun H locs hW hS hzz => ?_)
  have hzb1 := hzz
  refine lv_if_eq (tgt := 20) hx hb dX11_undo_7 (by decide) (fun c3 => ?_) (fun c3 => ?_)
  · replace h := sh_t c3 h
    refine lv_bipush (v := (-5 : Int32)) hx hb dX11_undo_20 (by decide) ?_
    exact tb_iretE h hx hb hr hS hW hlk dX11_undo_22
  · replace h := sh_f c3 h
    refine lv_aload_n hx hb dX11_undo_10 rfl (lv_at hl 0 rfl) ?_
    refine gtX11_51 hx hb hts hown hK hW cz11 dX11_undo_11 ?_
    refine gtX11_348 hx hb hts hown hK hW cz1 dX11_undo_14 ?_
    refine lv_goto (tgt := 22) hx hb dX11_undo_17 (by decide) ?_
    exact tb_iretE h hx hb hr hS hW hlk dX11_undo_22
def fX11_redo (M0 : Mem) : Option (Int32 × Mem) :=
  bE (fX1_goOn M0) fun b1 M2 => if b1 = 0 then (some ((-5 : Int32), M2)) else (some ((mgI M2 101 0 0) - (mgI M2 100 0 0), M2))
set_option maxHeartbeats 4000000 in
set_option maxRecDepth 100000 in
theorem mX11_redo {l : Launch} {D : va_G} {cy : Nat → ClassId} {A : Nat → Prop} {K : KC} {nS nL : Nat} {ad : Nat → Nat → Nat} (hZk : ZOK A (ZC A K)) (M0 : Mem) (r : Int32) (M' : Mem) (h : fX11_redo M0 = some (r, M')) : Met l yX11_redo (wt yX11_redo cX11_redo 1 (some .int)) (rm 3 65) (CPre D cy A (ZC A K) (cnC nS nL) ad M0 [.ref (ad 11 0)]) (QI D cy A (cnC nS nL) ad r M') 0 0 A := by
  refine tb_start [.ref (ad 11 0)] [(0, .ref (ad 11 0))] RX11 rfl (by decide +kernel) (Nat.le_of_ble_eq_true rfl) rfl (fun p e s m args below meth c hx hb hr hml hown hts hlk hW hK hZ ls hl => ?_)
  have hS : va_S A s.heap s.heap [] := va_S.rf
  unfold fX11_redo at h
  refine lv_aload_n hx hb dX11_redo_0 rfl (lv_at hl 0 rfl) ?_
  refine gtX11_51 hx hb hts hown hK hW cz11 dX11_redo_1 ?_
  replace h := bE_a h
  obtain ⟨b1, M2, hcb1, h⟩ := h
  refine tb_cVZ hZk hx hb hml hown hts hK hZ hW hS [] (mX1_goOn (l := l) hZk M0 b1 M2 hcb1) pmX1_goOn tw1109 (Wd.recv hK hW (t := 1) (by decide) cz1 (C := RX1) (T := TX1) (N := 8) rfl) ⟨Nat.le_of_ble_eq_true rfl, Nat.le_of_ble_eq_true rfl⟩ rfl hl.1 (Nat.le_of_ble_eq_true rfl) ⟨Nat.le_refl _, Nat.le_refl _⟩ rfl dX11_redo_4 (fun H locs hW hS hzz => ?_)
  have hzb1 := hzz
  refine lv_if_eq (tgt := 28) hx hb dX11_redo_7 (by decide) (fun c3 => ?_) (fun c3 => ?_)
  · replace h := sh_t c3 h
    refine lv_bipush (v := (-5 : Int32)) hx hb dX11_redo_28 (by decide) ?_
    exact tb_iretE h hx hb hr hS hW hlk dX11_redo_30
  · replace h := sh_f c3 h
    refine lv_aload_n hx hb dX11_redo_10 rfl (lv_at hl 0 rfl) ?_
    refine gtX11_51 hx hb hts hown hK hW cz11 dX11_redo_11 ?_
    refine gtX11_354 hx hb hts hown hK hW cz1 dX11_redo_14 ?_
    refine lv_aload_n hx hb dX11_redo_17 rfl (lv_at hl 0 rfl) ?_
    refine gtX11_51 hx hb hts hown hK hW cz11 dX11_redo_18 ?_
    refine gtX11_348 hx hb hts hown hK hW cz1 dX11_redo_21 ?_
    refine lv_isub hx hb dX11_redo_24 ?_
    refine lv_goto (tgt := 30) hx hb dX11_redo_25 (by decide) ?_
    exact tb_iretE h hx hb hr hS hW hlk dX11_redo_30
def fX11_trace (x1 : Int32) (M0 : Mem) : Option Int32 :=
  if x1 < 0 then (some (-1 : Int32)) else (if (mgI M0 1 0 0) ≤ x1 then (some (-1 : Int32)) else (if x1 < (24 : Int32) then (ix x1 24 <| some (mgI M0 2000 0 x1.toNatClampNeg)) else (some (-1 : Int32))))
set_option maxHeartbeats 4000000 in
set_option maxRecDepth 100000 in
theorem mX11_trace {l : Launch} {D : va_G} {cy : Nat → ClassId} {A : Nat → Prop} {K : KC} {nS nL : Nat} {ad : Nat → Nat → Nat} (hZk : ZOK A (ZC A K)) (x1 : Int32) (M0 : Mem) (r : Int32) (h : fX11_trace x1 M0 = some r) : Met l yX11_trace (wt yX11_trace cX11_trace 2 (some .int)) (rm 0 0) (CPre D cy A (ZC A K) (cnC nS nL) ad M0 [.ref (ad 11 0), .int x1]) (QI D cy A (cnC nS nL) ad r M0) 0 0 A := by
  refine tb_start [.ref (ad 11 0), .int x1] [(0, .ref (ad 11 0)), (1, .int x1)] RX11 rfl (by decide +kernel) (Nat.le_of_ble_eq_true rfl) rfl (fun p e s m args below meth c hx hb hr hml hown hts hlk hW hK hZ ls hl => ?_)
  have hS : va_S A s.heap s.heap [] := va_S.rf
  unfold fX11_trace at h
  refine lv_iload_n hx hb dX11_trace_0 rfl (lv_at hl 1 rfl) ?_
  refine lv_if_lt (tgt := 27) hx hb dX11_trace_1 (by decide) (fun c1 => ?_) (fun c1 => ?_)
  · replace h := sh_t c1 h
    refine lv_iconst (v := (-1 : Int32)) hx hb dX11_trace_27 (by decide) ?_
    exact tb_iretO h hx hb hr hS hW hlk dX11_trace_28
  · replace h := sh_f c1 h
    refine lv_iload_n hx hb dX11_trace_4 rfl (lv_at hl 1 rfl) ?_
    refine lv_aload_n hx hb dX11_trace_5 rfl (lv_at hl 0 rfl) ?_
    refine gtX11_58 hx hb hts hown hK hW cz11 dX11_trace_6 ?_
    refine gtX11_357 hx hb hts hown hK hW cz0 dX11_trace_9 ?_
    refine lv_icmp_ge (tgt := 27) hx hb dX11_trace_12 (by decide) (fun c2 => ?_) (fun c2 => ?_)
    · replace h := sh_t c2 h
      refine lv_iconst (v := (-1 : Int32)) hx hb dX11_trace_27 (by decide) ?_
      exact tb_iretO h hx hb hr hS hW hlk dX11_trace_28
    · replace h := sh_f c2 h
      refine lv_iload_n hx hb dX11_trace_15 rfl (lv_at hl 1 rfl) ?_
      refine lv_aload_n hx hb dX11_trace_16 rfl (lv_at hl 0 rfl) ?_
      refine gtX11_58 hx hb hts hown hK hW cz11 dX11_trace_17 ?_
      refine gtX11_364 hx hb hts hown hK hW cz0 dX11_trace_20 ?_
      refine tb_alen (v := (24 : Int32)) hx hb hK hW 20 (by decide) (by decide) rfl cz20 (by decide) dX11_trace_23 ?_
      refine lv_icmp_lt (tgt := 29) hx hb dX11_trace_24 (by decide) (fun c3 => ?_) (fun c3 => ?_)
      · replace h := sh_t c3 h
        refine lv_aload_n hx hb dX11_trace_29 rfl (lv_at hl 0 rfl) ?_
        refine gtX11_58 hx hb hts hown hK hW cz11 dX11_trace_30 ?_
        refine gtX11_364 hx hb hts hown hK hW cz0 dX11_trace_33 ?_
        refine lv_iload_n hx hb dX11_trace_36 rfl (lv_at hl 1 rfl) ?_
        replace h := ix_a h
        obtain ⟨hj, h⟩ := h
        refine al20 hx hb hK hW cz20 hj dX11_trace_37 ?_
        exact tb_iretO h hx hb hr hS hW hlk dX11_trace_38
      · replace h := sh_f c3 h
        refine lv_iconst (v := (-1 : Int32)) hx hb dX11_trace_27 (by decide) ?_
        exact tb_iretO h hx hb hr hS hW hlk dX11_trace_28
def fX11_keep (x1 : Int32) (x2 : Int32) (M0 : Mem) : Option (Int32 × Mem) :=
  nm (fX6_isPlace x1) fun b1 => if b1 = 0 then (some ((-1 : Int32), M0)) else (if x2 = (-1 : Int32) then (bE (fX6_holdStone x1 x2 M0) fun u4 M5 => some ((1 : Int32), M5)) else (bd (fX5_stoneAt x2 M0) fun o6 => oc o6 (some ((-1 : Int32), M0)) fun a7 => bE (fX6_holdStone x1 x2 M0) fun u8 M9 => some ((1 : Int32), M9)))
set_option maxHeartbeats 4000000 in
set_option maxRecDepth 100000 in
theorem mX11_keep {l : Launch} {D : va_G} {cy : Nat → ClassId} {A : Nat → Prop} {K : KC} {nS nL : Nat} {ad : Nat → Nat → Nat} (hZk : ZOK A (ZC A K)) (x1 : Int32) (x2 : Int32) (M0 : Mem) (r : Int32) (M' : Mem) (h : fX11_keep x1 x2 M0 = some (r, M')) : Met l yX11_keep (wt yX11_keep cX11_keep 3 (some .int)) (rm 1 22) (CPre D cy A (ZC A K) (cnC nS nL) ad M0 [.ref (ad 11 0), .int x1, .int x2]) (QI D cy A (cnC nS nL) ad r M') 0 0 A := by
  refine tb_start [.ref (ad 11 0), .int x1, .int x2] [(0, .ref (ad 11 0)), (1, .int x1), (2, .int x2)] RX11 rfl (by decide +kernel) (Nat.le_of_ble_eq_true rfl) rfl (fun p e s m args below meth c hx hb hr hml hown hts hlk hW hK hZ ls hl => ?_)
  have hS : va_S A s.heap s.heap [] := va_S.rf
  unfold fX11_keep at h
  refine lv_aload_n hx hb dX11_keep_0 rfl (lv_at hl 0 rfl) ?_
  refine gtX11_65 hx hb hts hown hK hW cz11 dX11_keep_1 ?_
  refine lv_iload_n hx hb dX11_keep_4 rfl (lv_at hl 1 rfl) ?_
  refine tb_cVZ hZk hx hb hml hown hts hK hZ hW hS [.int x1] (mX6_isPlace (l := l) hZk x1 M0 (fX6_isPlace x1) rfl) pmX6_isPlace tw580 (Wd.recv hK hW (t := 6) (by decide) cz6 (C := RX6) (T := TX6) (N := 4) rfl) ⟨Nat.le_of_ble_eq_true rfl, Nat.le_of_ble_eq_true rfl⟩ rfl hl.1 (Nat.le_of_ble_eq_true rfl) ⟨Nat.le_refl _, Nat.le_refl _⟩ rfl dX11_keep_5 (fun H locs hW hS hzz => ?_)
  refine lv_topi (fun b1 eb1 => ?_)
  replace h := nm_a eb1 h
  have hzb1 : b1 = 0 ∨ b1 = 1 := by rw [eb1]; exact hzz
  refine lv_if_eq (tgt := 27) hx hb dX11_keep_8 (by decide) (fun c2 => ?_) (fun c2 => ?_)
  · replace h := sh_t c2 h
    refine lv_iconst (v := (-1 : Int32)) hx hb dX11_keep_27 (by decide) ?_
    exact tb_iretE h hx hb hr hS hW hlk dX11_keep_28
  · replace h := sh_f c2 h
    refine lv_iload_n hx hb dX11_keep_11 rfl (lv_at hl 2 rfl) ?_
    refine lv_iconst (v := (-1 : Int32)) hx hb dX11_keep_12 (by decide) ?_
    refine lv_icmp_eq (tgt := 29) hx hb dX11_keep_13 (by decide) (fun c3 => ?_) (fun c3 => ?_)
    · replace h := sh_t c3 h
      refine lv_aload_n hx hb dX11_keep_29 rfl (lv_at hl 0 rfl) ?_
      refine gtX11_65 hx hb hts hown hK hW cz11 dX11_keep_30 ?_
      refine lv_iload_n hx hb dX11_keep_33 rfl (lv_at hl 1 rfl) ?_
      refine lv_iload_n hx hb dX11_keep_34 rfl (lv_at hl 2 rfl) ?_
      replace h := bE_a h
      obtain ⟨u4, M5, hcu4, h⟩ := h
      refine tb_cVV hZk hx hb hml hown hts hK hZ hW hS [.int x1, .int x2] (mX6_holdStone (l := l) hZk x1 x2 M0 u4 M5 hcu4) pmX6_holdStone tw1144 (Wd.recv hK hW (t := 6) (by decide) cz6 (C := RX6) (T := TX6) (N := 4) rfl) ⟨Nat.le_of_ble_eq_true rfl, Nat.le_of_ble_eq_true rfl⟩ rfl hl.1 (Nat.le_of_ble_eq_true rfl) ⟨Nat.le_refl _, Nat.le_refl _⟩ rfl dX11_keep_35 (fun H locs hW hS => ?_)
      refine lv_iconst (v := (1 : Int32)) hx hb dX11_keep_38 (by decide) ?_
      exact tb_iretE h hx hb hr hS hW hlk dX11_keep_39
    · replace h := sh_f c3 h
      refine lv_aload_n hx hb dX11_keep_16 rfl (lv_at hl 0 rfl) ?_
      refine gtX11_10 hx hb hts hown hK hW cz11 dX11_keep_17 ?_
      refine lv_iload_n hx hb dX11_keep_20 rfl (lv_at hl 2 rfl) ?_
      replace h := bd_a h
      obtain ⟨o6, hco6, h⟩ := h
      refine tb_cVR hZk hx hb hml hown hts hK hZ hW hS [.int x2] (mX5_stoneAt (l := l) hZk x2 M0 o6 hco6) pmX5_stoneAt tw502 (Wd.recv hK hW (t := 5) (by decide) cz5 (C := RX5) (T := TX5) (N := 7) rfl) ⟨Nat.le_of_ble_eq_true rfl, Nat.le_of_ble_eq_true rfl⟩ rfl hl.1 (Nat.le_of_ble_eq_true rfl) ⟨Nat.le_refl _, Nat.le_refl _⟩ rfl dX11_keep_21 (fun H locs hW hS hrr => ?_)
      have ho6 := hrr
      refine tb_ifnonnull (tgt := 29) hx hb dX11_keep_24 (by decide) (fun a7 ea7 => ?_) (fun e0 => ?_)
      · replace h := oc_s ea7 h
        subst ea7
        have la7 := ho6 _ rfl
        refine lv_aload_n hx hb dX11_keep_29 rfl (lv_at hl 0 rfl) ?_
        refine gtX11_65 hx hb hts hown hK hW cz11 dX11_keep_30 ?_
        refine lv_iload_n hx hb dX11_keep_33 rfl (lv_at hl 1 rfl) ?_
        refine lv_iload_n hx hb dX11_keep_34 rfl (lv_at hl 2 rfl) ?_
        replace h := bE_a h
        obtain ⟨u8, M9, hcu8, h⟩ := h
        refine tb_cVV hZk hx hb hml hown hts hK hZ hW hS [.int x1, .int x2] (mX6_holdStone (l := l) hZk x1 x2 M0 u8 M9 hcu8) pmX6_holdStone tw1144 (Wd.recv hK hW (t := 6) (by decide) cz6 (C := RX6) (T := TX6) (N := 4) rfl) ⟨Nat.le_of_ble_eq_true rfl, Nat.le_of_ble_eq_true rfl⟩ rfl hl.1 (Nat.le_of_ble_eq_true rfl) ⟨Nat.le_refl _, Nat.le_refl _⟩ rfl dX11_keep_35 (fun H locs hW hS => ?_)
        refine lv_iconst (v := (1 : Int32)) hx hb dX11_keep_38 (by decide) ?_
        exact tb_iretE h hx hb hr hS hW hlk dX11_keep_39
      · replace h := oc_n e0 h
        subst e0
        refine lv_iconst (v := (-1 : Int32)) hx hb dX11_keep_27 (by decide) ?_
        exact tb_iretE h hx hb hr hS hW hlk dX11_keep_28
def fX11_row (x1 : Int32) (x2 : Int32) (x3 : Int32) (M0 : Mem) : Option (Int32 × Mem) :=
  nm (fX6_isPlace x1) fun b1 => if b1 = 0 then (some ((-1 : Int32), M0)) else (if x2 < 0 then (some ((-1 : Int32), M0)) else (if (4 : Int32) < x2 then (some ((-1 : Int32), M0)) else (if x3 ≤ (60 : Int32) then (if 0 ≤ x3 then (bE (fX6_holdRow x1 x2 x3 M0) fun u7 M8 => some ((1 : Int32), M8)) else (some ((-14 : Int32), M0))) else (some ((-1 : Int32), M0)))))
set_option maxHeartbeats 4000000 in
set_option maxRecDepth 100000 in
theorem mX11_row {l : Launch} {D : va_G} {cy : Nat → ClassId} {A : Nat → Prop} {K : KC} {nS nL : Nat} {ad : Nat → Nat → Nat} (hZk : ZOK A (ZC A K)) (x1 : Int32) (x2 : Int32) (x3 : Int32) (M0 : Mem) (r : Int32) (M' : Mem) (h : fX11_row x1 x2 x3 M0 = some (r, M')) : Met l yX11_row (wt yX11_row cX11_row 4 (some .int)) (rm 1 24) (CPre D cy A (ZC A K) (cnC nS nL) ad M0 [.ref (ad 11 0), .int x1, .int x2, .int x3]) (QI D cy A (cnC nS nL) ad r M') 0 0 A := by
  refine tb_start [.ref (ad 11 0), .int x1, .int x2, .int x3] [(0, .ref (ad 11 0)), (1, .int x1), (2, .int x2), (3, .int x3)] RX11 rfl (by decide +kernel) (Nat.le_of_ble_eq_true rfl) rfl (fun p e s m args below meth c hx hb hr hml hown hts hlk hW hK hZ ls hl => ?_)
  have hS : va_S A s.heap s.heap [] := va_S.rf
  unfold fX11_row at h
  refine lv_aload_n hx hb dX11_row_0 rfl (lv_at hl 0 rfl) ?_
  refine gtX11_65 hx hb hts hown hK hW cz11 dX11_row_1 ?_
  refine lv_iload_n hx hb dX11_row_4 rfl (lv_at hl 1 rfl) ?_
  refine tb_cVZ hZk hx hb hml hown hts hK hZ hW hS [.int x1] (mX6_isPlace (l := l) hZk x1 M0 (fX6_isPlace x1) rfl) pmX6_isPlace tw580 (Wd.recv hK hW (t := 6) (by decide) cz6 (C := RX6) (T := TX6) (N := 4) rfl) ⟨Nat.le_of_ble_eq_true rfl, Nat.le_of_ble_eq_true rfl⟩ rfl hl.1 (Nat.le_of_ble_eq_true rfl) ⟨Nat.le_refl _, Nat.le_refl _⟩ rfl dX11_row_5 (fun H locs hW hS hzz => ?_)
  refine lv_topi (fun b1 eb1 => ?_)
  replace h := nm_a eb1 h
  have hzb1 : b1 = 0 ∨ b1 = 1 := by rw [eb1]; exact hzz
  refine lv_if_eq (tgt := 26) hx hb dX11_row_8 (by decide) (fun c2 => ?_) (fun c2 => ?_)
  · replace h := sh_t c2 h
    refine lv_iconst (v := (-1 : Int32)) hx hb dX11_row_26 (by decide) ?_
    exact tb_iretE h hx hb hr hS hW hlk dX11_row_27
  · replace h := sh_f c2 h
    refine lv_iload_n hx hb dX11_row_11 rfl (lv_at hl 2 rfl) ?_
    refine lv_if_lt (tgt := 26) hx hb dX11_row_12 (by decide) (fun c3 => ?_) (fun c3 => ?_)
    · replace h := sh_t c3 h
      refine lv_iconst (v := (-1 : Int32)) hx hb dX11_row_26 (by decide) ?_
      exact tb_iretE h hx hb hr hS hW hlk dX11_row_27
    · replace h := sh_f c3 h
      refine lv_iload_n hx hb dX11_row_15 rfl (lv_at hl 2 rfl) ?_
      refine lv_iconst (v := (4 : Int32)) hx hb dX11_row_16 (by decide) ?_
      refine lv_icmp_gt (tgt := 26) hx hb dX11_row_17 (by decide) (fun c4 => ?_) (fun c4 => ?_)
      · replace h := sh_t c4 h
        refine lv_iconst (v := (-1 : Int32)) hx hb dX11_row_26 (by decide) ?_
        exact tb_iretE h hx hb hr hS hW hlk dX11_row_27
      · replace h := sh_f c4 h
        refine lv_iload_n hx hb dX11_row_20 rfl (lv_at hl 3 rfl) ?_
        refine lv_bipush (v := (60 : Int32)) hx hb dX11_row_21 (by decide) ?_
        refine lv_icmp_le (tgt := 28) hx hb dX11_row_23 (by decide) (fun c5 => ?_) (fun c5 => ?_)
        · replace h := sh_t c5 h
          refine lv_iload_n hx hb dX11_row_28 rfl (lv_at hl 3 rfl) ?_
          refine lv_if_ge (tgt := 35) hx hb dX11_row_29 (by decide) (fun c6 => ?_) (fun c6 => ?_)
          · replace h := sh_t c6 h
            refine lv_aload_n hx hb dX11_row_35 rfl (lv_at hl 0 rfl) ?_
            refine gtX11_65 hx hb hts hown hK hW cz11 dX11_row_36 ?_
            refine lv_iload_n hx hb dX11_row_39 rfl (lv_at hl 1 rfl) ?_
            refine lv_iload_n hx hb dX11_row_40 rfl (lv_at hl 2 rfl) ?_
            refine lv_iload_n hx hb dX11_row_41 rfl (lv_at hl 3 rfl) ?_
            replace h := bE_a h
            obtain ⟨u7, M8, hcu7, h⟩ := h
            refine tb_cVV hZk hx hb hml hown hts hK hZ hW hS [.int x1, .int x2, .int x3] (mX6_holdRow (l := l) hZk x1 x2 x3 M0 u7 M8 hcu7) pmX6_holdRow tw1152 (Wd.recv hK hW (t := 6) (by decide) cz6 (C := RX6) (T := TX6) (N := 4) rfl) ⟨Nat.le_of_ble_eq_true rfl, Nat.le_of_ble_eq_true rfl⟩ rfl hl.1 (Nat.le_of_ble_eq_true rfl) ⟨Nat.le_refl _, Nat.le_refl _⟩ rfl dX11_row_42 (fun H locs hW hS => ?_)
            refine lv_iconst (v := (1 : Int32)) hx hb dX11_row_45 (by decide) ?_
            exact tb_iretE h hx hb hr hS hW hlk dX11_row_46
          · replace h := sh_f c6 h
            refine lv_bipush (v := (-14 : Int32)) hx hb dX11_row_32 (by decide) ?_
            exact tb_iretE h hx hb hr hS hW hlk dX11_row_34
        · replace h := sh_f c5 h
          refine lv_iconst (v := (-1 : Int32)) hx hb dX11_row_26 (by decide) ?_
          exact tb_iretE h hx hb hr hS hW hlk dX11_row_27
def fX11_put (x1 : Int32) (x2 : Int32) (x3 : Int64) (M0 : Mem) : Option (Int32 × Mem) :=
  bd (fX6_refuses x1 x2 M0) fun b1 => if b1 = 0 then (bE (fX6_store x1 x2 x3 M0) fun u3 M4 => some ((1 : Int32), M4)) else (some (b1, M0))
set_option maxHeartbeats 4000000 in
set_option maxRecDepth 100000 in
theorem mX11_put {l : Launch} {D : va_G} {cy : Nat → ClassId} {A : Nat → Prop} {K : KC} {nS nL : Nat} {ad : Nat → Nat → Nat} (hZk : ZOK A (ZC A K)) (x1 : Int32) (x2 : Int32) (x3 : Int64) (M0 : Mem) (r : Int32) (M' : Mem) (h : fX11_put x1 x2 x3 M0 = some (r, M')) : Met l yX11_put (wt yX11_put cX11_put 6 (some .int)) (rm 3 65) (CPre D cy A (ZC A K) (cnC nS nL) ad M0 [.ref (ad 11 0), .int x1, .int x2, .long x3]) (QI D cy A (cnC nS nL) ad r M') 0 0 A := by
  refine tb_start [.ref (ad 11 0), .int x1, .int x2, .long x3] [(0, .ref (ad 11 0)), (1, .int x1), (2, .int x2), (3, .long x3)] RX11 rfl (by decide +kernel) (Nat.le_of_ble_eq_true rfl) rfl (fun p e s m args below meth c hx hb hr hml hown hts hlk hW hK hZ ls hl => ?_)
  have hS : va_S A s.heap s.heap [] := va_S.rf
  unfold fX11_put at h
  refine lv_aload_n hx hb dX11_put_0 rfl (lv_at hl 0 rfl) ?_
  refine gtX11_65 hx hb hts hown hK hW cz11 dX11_put_1 ?_
  refine lv_iload_n hx hb dX11_put_4 rfl (lv_at hl 1 rfl) ?_
  refine lv_iload_n hx hb dX11_put_5 rfl (lv_at hl 2 rfl) ?_
  replace h := bd_a h
  obtain ⟨b1, hcb1, h⟩ := h
  refine tb_cVI hZk hx hb hml hown hts hK hZ hW hS [.int x1, .int x2] (mX6_refuses (l := l) hZk x1 x2 M0 b1 hcb1) pmX6_refuses tw1160 (Wd.recv hK hW (t := 6) (by decide) cz6 (C := RX6) (T := TX6) (N := 4) rfl) ⟨Nat.le_of_ble_eq_true rfl, Nat.le_of_ble_eq_true rfl⟩ rfl hl.1 (Nat.le_of_ble_eq_true rfl) ⟨Nat.le_refl _, Nat.le_refl _⟩ rfl dX11_put_6 (fun H locs hW hS => ?_)
  refine lv_istore (lv' := [(5, .int b1), (0, .ref (ad 11 0)), (1, .int x1), (2, .int x2), (3, .long x3)]) hx hb dX11_put_9 hl (by decide) rfl (fun ls hl => ?_)
  refine lv_iload hx hb dX11_put_11 (lv_at hl 0 rfl) ?_
  refine lv_if_eq (tgt := 19) hx hb dX11_put_13 (by decide) (fun c2 => ?_) (fun c2 => ?_)
  · replace h := sh_t c2 h
    refine lv_aload_n hx hb dX11_put_19 rfl (lv_at hl 1 rfl) ?_
    refine gtX11_65 hx hb hts hown hK hW cz11 dX11_put_20 ?_
    refine lv_iload_n hx hb dX11_put_23 rfl (lv_at hl 2 rfl) ?_
    refine lv_iload_n hx hb dX11_put_24 rfl (lv_at hl 3 rfl) ?_
    refine lv_lload_n hx hb dX11_put_25 rfl (lv_at hl 4 rfl) ?_
    replace h := bE_a h
    obtain ⟨u3, M4, hcu3, h⟩ := h
    refine tb_cVV hZk hx hb hml hown hts hK hZ hW hS [.int x1, .int x2, .long x3] (mX6_store (l := l) hZk x1 x2 x3 M0 u3 M4 hcu3) pmX6_store tw1167 (Wd.recv hK hW (t := 6) (by decide) cz6 (C := RX6) (T := TX6) (N := 4) rfl) ⟨Nat.le_of_ble_eq_true rfl, Nat.le_of_ble_eq_true rfl⟩ rfl hl.1 (Nat.le_of_ble_eq_true rfl) ⟨Nat.le_refl _, Nat.le_refl _⟩ rfl dX11_put_26 (fun H locs hW hS => ?_)
    refine lv_iconst (v := (1 : Int32)) hx hb dX11_put_29 (by decide) ?_
    exact tb_iretE h hx hb hr hS hW hlk dX11_put_30
  · replace h := sh_f c2 h
    refine lv_iload hx hb dX11_put_16 (lv_at hl 0 rfl) ?_
    exact tb_iretE h hx hb hr hS hW hlk dX11_put_18
def fX11_element (x1 : Int32) (x2 : Int32) (M0 : Mem) : Option Int64 :=
  bd (fX6_refuses x1 x2 M0) fun b1 => if b1 = 0 then (bd (fX6_at x1 x2 M0) fun g3 => some g3) else (some (-9223372036854775808 : Int64))
set_option maxHeartbeats 4000000 in
set_option maxRecDepth 100000 in
theorem mX11_element {l : Launch} {D : va_G} {cy : Nat → ClassId} {A : Nat → Prop} {K : KC} {nS nL : Nat} {ad : Nat → Nat → Nat} (hZk : ZOK A (ZC A K)) (x1 : Int32) (x2 : Int32) (M0 : Mem) (r : Int64) (h : fX11_element x1 x2 M0 = some r) : Met l yX11_element (wt yX11_element cX11_element 3 (some .long)) (rm 3 65) (CPre D cy A (ZC A K) (cnC nS nL) ad M0 [.ref (ad 11 0), .int x1, .int x2]) (QL D cy A (cnC nS nL) ad r M0) 0 0 A := by
  refine tb_start [.ref (ad 11 0), .int x1, .int x2] [(0, .ref (ad 11 0)), (1, .int x1), (2, .int x2)] RX11 rfl (by decide +kernel) (Nat.le_of_ble_eq_true rfl) rfl (fun p e s m args below meth c hx hb hr hml hown hts hlk hW hK hZ ls hl => ?_)
  have hS : va_S A s.heap s.heap [] := va_S.rf
  unfold fX11_element at h
  refine lv_aload_n hx hb dX11_element_0 rfl (lv_at hl 0 rfl) ?_
  refine gtX11_65 hx hb hts hown hK hW cz11 dX11_element_1 ?_
  refine lv_iload_n hx hb dX11_element_4 rfl (lv_at hl 1 rfl) ?_
  refine lv_iload_n hx hb dX11_element_5 rfl (lv_at hl 2 rfl) ?_
  replace h := bd_a h
  obtain ⟨b1, hcb1, h⟩ := h
  refine tb_cVI hZk hx hb hml hown hts hK hZ hW hS [.int x1, .int x2] (mX6_refuses (l := l) hZk x1 x2 M0 b1 hcb1) pmX6_refuses tw1160 (Wd.recv hK hW (t := 6) (by decide) cz6 (C := RX6) (T := TX6) (N := 4) rfl) ⟨Nat.le_of_ble_eq_true rfl, Nat.le_of_ble_eq_true rfl⟩ rfl hl.1 (Nat.le_of_ble_eq_true rfl) ⟨Nat.le_refl _, Nat.le_refl _⟩ rfl dX11_element_6 (fun H locs hW hS => ?_)
  refine lv_if_eq (tgt := 18) hx hb dX11_element_9 (by decide) (fun c2 => ?_) (fun c2 => ?_)
  · replace h := sh_t c2 h
    refine lv_aload_n hx hb dX11_element_18 rfl (lv_at hl 0 rfl) ?_
    refine gtX11_65 hx hb hts hown hK hW cz11 dX11_element_19 ?_
    refine lv_iload_n hx hb dX11_element_22 rfl (lv_at hl 1 rfl) ?_
    refine lv_iload_n hx hb dX11_element_23 rfl (lv_at hl 2 rfl) ?_
    replace h := bd_a h
    obtain ⟨g3, hcg3, h⟩ := h
    refine tb_cVL hZk hx hb hml hown hts hK hZ hW hS [.int x1, .int x2] (mX6_at (l := l) hZk x1 x2 M0 g3 hcg3) pmX6_at tw604 (Wd.recv hK hW (t := 6) (by decide) cz6 (C := RX6) (T := TX6) (N := 4) rfl) ⟨Nat.le_of_ble_eq_true rfl, Nat.le_of_ble_eq_true rfl⟩ rfl hl.1 (Nat.le_of_ble_eq_true rfl) ⟨Nat.le_refl _, Nat.le_refl _⟩ rfl dX11_element_24 (fun H locs hW hS => ?_)
    exact tb_lretO h hx hb hr hS hW hlk dX11_element_27
  · replace h := sh_f c2 h
    refine lv_ldc2 hx hb hown (hts _ tw1178) dX11_element_12 ?_
    refine lv_goto (tgt := 27) hx hb dX11_element_15 (by decide) ?_
    exact tb_lretO h hx hb hr hS hW hlk dX11_element_27
def fX11_isUnder_b4 (x1 : Int32) (k1 : Int32 → Int32 → Option Int32) (i2 : Int32) (i3 : Int32) : Option Int32 :=
  if (6 : Int32) < i3 then (if i2 = x1 then (some (1 : Int32)) else (some (0 : Int32))) else (if i2 ≤ 0 then (if i2 = x1 then (some (1 : Int32)) else (some (0 : Int32))) else (if i2 = x1 then (if i2 = x1 then (some (1 : Int32)) else (some (0 : Int32))) else (ix i2 7 <| nm (tAb i2.toNatClampNeg) fun v10 => nm (i3 + (1 : Int32)) fun v11 => k1 v10 v11)))
def fX11_isUnder_l4 (x1 : Int32) : Nat → Int32 → Int32 → Option Int32
  | 0, _, _ => none
  | n + 1, i2, i3 => fX11_isUnder_b4 x1 (fX11_isUnder_l4 x1 n) i2 i3
def fX11_isUnder (x0 : Int32) (x1 : Int32) (M0 : Mem) : Option Int32 :=
  fX11_isUnder_l4 x1 FU x0 (0 : Int32)
set_option maxHeartbeats 4000000 in
set_option maxRecDepth 100000 in
theorem mX11_isUnder {l : Launch} {D : va_G} {cy : Nat → ClassId} {A : Nat → Prop} {K : KC} {nS nL : Nat} {ad : Nat → Nat → Nat} (hZk : ZOK A (ZC A K)) (x0 : Int32) (x1 : Int32) (M0 : Mem) (r : Int32) (h : fX11_isUnder x0 x1 M0 = some r) : Met l yX11_isUnder (wt yX11_isUnder cX11_isUnder 4 (some .boolean)) (rm 0 0) (CPre D cy A (ZC A K) (cnC nS nL) ad M0 [.int x0, .int x1]) (QZ D cy A (cnC nS nL) ad r M0) 0 0 A := by
  refine tb_start [.int x0, .int x1] [(0, .int x0), (1, .int x1)] RX11 rfl (by decide +kernel) (Nat.le_of_ble_eq_true rfl) rfl (fun p e s m args below meth c hx hb hr hml hown hts hlk hW hK hZ ls hl => ?_)
  have hS : va_S A s.heap s.heap [] := va_S.rf
  unfold fX11_isUnder at h
  refine lv_iload_n hx hb dX11_isUnder_0 rfl (lv_at hl 0 rfl) ?_
  refine lv_istore_n (lv' := [(2, .int x0), (0, .int x0), (1, .int x1)]) hx hb dX11_isUnder_1 rfl hl (by decide) rfl (fun ls hl => ?_)
  refine lv_iconst (v := (0 : Int32)) hx hb dX11_isUnder_2 (by decide) ?_
  refine lv_istore_n (lv' := [(3, .int (0 : Int32)), (2, .int x0), (0, .int x0), (1, .int x1)]) hx hb dX11_isUnder_3 rfl hl (by decide) rfl (fun ls hl => ?_)
  have L1 : ∀ (n1 : Nat) (i2 : Int32) (i3 : Int32) (H : Heap) (locs : List Loc) (ls : Array Slot), Wd D cy A (cnC nS nL) ad M0 H → va_S A s.heap H locs → lv_has ls 4 [(1, .int x1), (2, .int i2), (3, .int i3)] → fX11_isUnder_l4 x1 n1 i2 i3 = some r → W p l e (rm 0 0) s m args below meth c H locs 0 0 (MQ below (QZ D cy A (cnC nS nL) ad r M0) args s 0 0 A) (F0 m 4 ls []) := by
    intro n1
    induction n1 with
    | zero => intro i2 i3 H locs ls hW hS hl h; cases h
    | succ n1 ih1 =>
      intro i2 i3 H locs ls hW hS hl h
      unfold fX11_isUnder_l4 fX11_isUnder_b4 at h
      refine lv_iload_n hx hb dX11_isUnder_4 rfl (lv_at hl 2 rfl) ?_
      refine lv_bipush (v := (6 : Int32)) hx hb dX11_isUnder_5 (by decide) ?_
      refine lv_icmp_gt (tgt := 31) hx hb dX11_isUnder_7 (by decide) (fun c4 => ?_) (fun c4 => ?_)
      · replace h := sh_t c4 h
        refine lv_iload_n hx hb dX11_isUnder_31 rfl (lv_at hl 1 rfl) ?_
        refine lv_iload_n hx hb dX11_isUnder_32 rfl (lv_at hl 0 rfl) ?_
        refine lv_icmp_ne (tgt := 40) hx hb dX11_isUnder_33 (by decide) (fun c5 => ?_) (fun c5 => ?_)
        · replace h := sh_f c5 h
          refine lv_iconst (v := (0 : Int32)) hx hb dX11_isUnder_40 (by decide) ?_
          exact tb_zretO h hx hb hr hS hW hlk (by decide) dX11_isUnder_41
        · replace h := sh_t c5 h
          refine lv_iconst (v := (1 : Int32)) hx hb dX11_isUnder_36 (by decide) ?_
          refine lv_goto (tgt := 41) hx hb dX11_isUnder_37 (by decide) ?_
          exact tb_zretO h hx hb hr hS hW hlk (by decide) dX11_isUnder_41
      · replace h := sh_f c4 h
        refine lv_iload_n hx hb dX11_isUnder_10 rfl (lv_at hl 1 rfl) ?_
        refine lv_if_le (tgt := 31) hx hb dX11_isUnder_11 (by decide) (fun c6 => ?_) (fun c6 => ?_)
        · replace h := sh_t c6 h
          refine lv_iload_n hx hb dX11_isUnder_31 rfl (lv_at hl 1 rfl) ?_
          refine lv_iload_n hx hb dX11_isUnder_32 rfl (lv_at hl 0 rfl) ?_
          refine lv_icmp_ne (tgt := 40) hx hb dX11_isUnder_33 (by decide) (fun c7 => ?_) (fun c7 => ?_)
          · replace h := sh_f c7 h
            refine lv_iconst (v := (0 : Int32)) hx hb dX11_isUnder_40 (by decide) ?_
            exact tb_zretO h hx hb hr hS hW hlk (by decide) dX11_isUnder_41
          · replace h := sh_t c7 h
            refine lv_iconst (v := (1 : Int32)) hx hb dX11_isUnder_36 (by decide) ?_
            refine lv_goto (tgt := 41) hx hb dX11_isUnder_37 (by decide) ?_
            exact tb_zretO h hx hb hr hS hW hlk (by decide) dX11_isUnder_41
        · replace h := sh_f c6 h
          refine lv_iload_n hx hb dX11_isUnder_14 rfl (lv_at hl 1 rfl) ?_
          refine lv_iload_n hx hb dX11_isUnder_15 rfl (lv_at hl 0 rfl) ?_
          refine lv_icmp_eq (tgt := 31) hx hb dX11_isUnder_16 (by decide) (fun c8 => ?_) (fun c8 => ?_)
          · replace h := sh_t c8 h
            refine lv_iload_n hx hb dX11_isUnder_31 rfl (lv_at hl 1 rfl) ?_
            refine lv_iload_n hx hb dX11_isUnder_32 rfl (lv_at hl 0 rfl) ?_
            refine lv_icmp_ne (tgt := 40) hx hb dX11_isUnder_33 (by decide) (fun c9 => ?_) (fun c9 => ?_)
            · replace h := sh_f c9 h
              refine lv_iconst (v := (0 : Int32)) hx hb dX11_isUnder_40 (by decide) ?_
              exact tb_zretO h hx hb hr hS hW hlk (by decide) dX11_isUnder_41
            · replace h := sh_t c9 h
              refine lv_iconst (v := (1 : Int32)) hx hb dX11_isUnder_36 (by decide) ?_
              refine lv_goto (tgt := 41) hx hb dX11_isUnder_37 (by decide) ?_
              exact tb_zretO h hx hb hr hS hW hlk (by decide) dX11_isUnder_41
          · replace h := sh_f c8 h
            refine va_getsN hx hb hZ.2.2.2.1.1 hS hown (va_Nw.use rfl hZ.2.2.2.2.2.2) (fun _ h9 => h9) dX11_isUnder_19 ?_
            refine lv_iload_n hx hb dX11_isUnder_22 rfl (lv_at hl 1 rfl) ?_
            replace h := ix_a h
            obtain ⟨hj, h⟩ := h
            refine tb_Tiald hx hb hZ.2.2.2.1.2 hS hj dX11_isUnder_23 ?_
            refine lv_topi (fun v10 ev10 => ?_)
            replace h := nm_a ev10 h
            refine lv_istore_n (lv' := [(2, .int v10), (1, .int x1), (3, .int i3)]) hx hb dX11_isUnder_24 rfl hl (by decide) rfl (fun ls hl => ?_)
            obtain ⟨v11, ev11⟩ : ∃ y : Int32, y = i3 + (1 : Int32) := ⟨_, rfl⟩
            replace h := nm_a ev11 h
            refine lv_iinc (v := v11) (lv' := [(3, .int v11), (2, .int v10), (1, .int x1)]) hx hb dX11_isUnder_25 hl (k := 2) rfl (by rw [ev11]; rfl) (by decide) rfl (fun ls hl => ?_)
            refine lv_goto (tgt := 4) hx hb dX11_isUnder_28 (by decide) ?_
            exact ih1 v10 v11 _ _ _ hW hS (lv_sub hl [2, 1, 0] rfl) h
  exact L1 FU x0 (0 : Int32) _ _ _ hW hS (lv_sub hl [3, 1, 0] rfl) h
def fX11_taken (x1 : Int32) (x2 : Int32) (M0 : Mem) : Option Int32 :=
  nm (fX6_isPlace x1) fun b1 => if b1 = 0 then (some (-1 : Int32)) else (if x2 < 0 then (some (-1 : Int32)) else (if x2 ≤ (6 : Int32) then (bd (fX6_isEmpty x1 M0) fun b5 => if b5 = 0 then (bd (fX6_stoneIn x1 M0) fun b7 => bd (fX5_stoneAt b7 M0) fun o8 => oc o8 (some (-12 : Int32)) fun a9 => bd (fX5_kindNow (some a9) M0) fun b10 => bd (fX11_isUnder b10 x2 M0) fun b11 => if b11 = 0 then (some (-12 : Int32)) else (bd (fX5_kindNow (some a9) M0) fun b13 => some b13)) else (some (-11 : Int32))) else (some (-1 : Int32))))
set_option maxHeartbeats 4000000 in
set_option maxRecDepth 100000 in
theorem mX11_taken {l : Launch} {D : va_G} {cy : Nat → ClassId} {A : Nat → Prop} {K : KC} {nS nL : Nat} {ad : Nat → Nat → Nat} (hZk : ZOK A (ZC A K)) (x1 : Int32) (x2 : Int32) (M0 : Mem) (r : Int32) (h : fX11_taken x1 x2 M0 = some r) : Met l yX11_taken (wt yX11_taken cX11_taken 4 (some .int)) (rm 2 42) (CPre D cy A (ZC A K) (cnC nS nL) ad M0 [.ref (ad 11 0), .int x1, .int x2]) (QI D cy A (cnC nS nL) ad r M0) 0 0 A := by
  refine tb_start [.ref (ad 11 0), .int x1, .int x2] [(0, .ref (ad 11 0)), (1, .int x1), (2, .int x2)] RX11 rfl (by decide +kernel) (Nat.le_of_ble_eq_true rfl) rfl (fun p e s m args below meth c hx hb hr hml hown hts hlk hW hK hZ ls hl => ?_)
  have hS : va_S A s.heap s.heap [] := va_S.rf
  unfold fX11_taken at h
  refine lv_aload_n hx hb dX11_taken_0 rfl (lv_at hl 0 rfl) ?_
  refine gtX11_65 hx hb hts hown hK hW cz11 dX11_taken_1 ?_
  refine lv_iload_n hx hb dX11_taken_4 rfl (lv_at hl 1 rfl) ?_
  refine tb_cVZ hZk hx hb hml hown hts hK hZ hW hS [.int x1] (mX6_isPlace (l := l) hZk x1 M0 (fX6_isPlace x1) rfl) pmX6_isPlace tw580 (Wd.recv hK hW (t := 6) (by decide) cz6 (C := RX6) (T := TX6) (N := 4) rfl) ⟨Nat.le_of_ble_eq_true rfl, Nat.le_of_ble_eq_true rfl⟩ rfl hl.1 (Nat.le_of_ble_eq_true rfl) ⟨Nat.le_refl _, Nat.le_refl _⟩ rfl dX11_taken_5 (fun H locs hW hS hzz => ?_)
  refine lv_topi (fun b1 eb1 => ?_)
  replace h := nm_a eb1 h
  have hzb1 : b1 = 0 ∨ b1 = 1 := by rw [eb1]; exact hzz
  refine lv_if_eq (tgt := 21) hx hb dX11_taken_8 (by decide) (fun c2 => ?_) (fun c2 => ?_)
  · replace h := sh_t c2 h
    refine lv_iconst (v := (-1 : Int32)) hx hb dX11_taken_21 (by decide) ?_
    exact tb_iretO h hx hb hr hS hW hlk dX11_taken_22
  · replace h := sh_f c2 h
    refine lv_iload_n hx hb dX11_taken_11 rfl (lv_at hl 2 rfl) ?_
    refine lv_if_lt (tgt := 21) hx hb dX11_taken_12 (by decide) (fun c3 => ?_) (fun c3 => ?_)
    · replace h := sh_t c3 h
      refine lv_iconst (v := (-1 : Int32)) hx hb dX11_taken_21 (by decide) ?_
      exact tb_iretO h hx hb hr hS hW hlk dX11_taken_22
    · replace h := sh_f c3 h
      refine lv_iload_n hx hb dX11_taken_15 rfl (lv_at hl 2 rfl) ?_
      refine lv_bipush (v := (6 : Int32)) hx hb dX11_taken_16 (by decide) ?_
      refine lv_icmp_le (tgt := 23) hx hb dX11_taken_18 (by decide) (fun c4 => ?_) (fun c4 => ?_)
      · replace h := sh_t c4 h
        refine lv_aload_n hx hb dX11_taken_23 rfl (lv_at hl 0 rfl) ?_
        refine gtX11_65 hx hb hts hown hK hW cz11 dX11_taken_24 ?_
        refine lv_iload_n hx hb dX11_taken_27 rfl (lv_at hl 1 rfl) ?_
        replace h := bd_a h
        obtain ⟨b5, hcb5, h⟩ := h
        refine tb_cVZ hZk hx hb hml hown hts hK hZ hW hS [.int x1] (mX6_isEmpty (l := l) hZk x1 M0 b5 hcb5) pmX6_isEmpty tw584 (Wd.recv hK hW (t := 6) (by decide) cz6 (C := RX6) (T := TX6) (N := 4) rfl) ⟨Nat.le_of_ble_eq_true rfl, Nat.le_of_ble_eq_true rfl⟩ rfl hl.1 (Nat.le_of_ble_eq_true rfl) ⟨Nat.le_refl _, Nat.le_refl _⟩ rfl dX11_taken_28 (fun H locs hW hS hzz => ?_)
        have hzb5 := hzz
        refine lv_if_eq (tgt := 37) hx hb dX11_taken_31 (by decide) (fun c6 => ?_) (fun c6 => ?_)
        · replace h := sh_t c6 h
          refine lv_aload_n hx hb dX11_taken_37 rfl (lv_at hl 0 rfl) ?_
          refine gtX11_10 hx hb hts hown hK hW cz11 dX11_taken_38 ?_
          refine lv_aload_n hx hb dX11_taken_41 rfl (lv_at hl 0 rfl) ?_
          refine gtX11_65 hx hb hts hown hK hW cz11 dX11_taken_42 ?_
          refine lv_iload_n hx hb dX11_taken_45 rfl (lv_at hl 1 rfl) ?_
          replace h := bd_a h
          obtain ⟨b7, hcb7, h⟩ := h
          refine tb_cVI hZk hx hb hml hown hts hK hZ hW hS [.int x1] (mX6_stoneIn (l := l) hZk x1 M0 b7 hcb7) pmX6_stoneIn tw1203 (Wd.recv hK hW (t := 6) (by decide) cz6 (C := RX6) (T := TX6) (N := 4) rfl) ⟨Nat.le_of_ble_eq_true rfl, Nat.le_of_ble_eq_true rfl⟩ rfl hl.1 (Nat.le_of_ble_eq_true rfl) ⟨Nat.le_refl _, Nat.le_refl _⟩ rfl dX11_taken_46 (fun H locs hW hS => ?_)
          replace h := bd_a h
          obtain ⟨o8, hco8, h⟩ := h
          refine tb_cVR hZk hx hb hml hown hts hK hZ hW hS [.int b7] (mX5_stoneAt (l := l) hZk b7 M0 o8 hco8) pmX5_stoneAt tw502 (Wd.recv hK hW (t := 5) (by decide) cz5 (C := RX5) (T := TX5) (N := 7) rfl) ⟨Nat.le_of_ble_eq_true rfl, Nat.le_of_ble_eq_true rfl⟩ rfl hl.1 (Nat.le_of_ble_eq_true rfl) ⟨Nat.le_refl _, Nat.le_refl _⟩ rfl dX11_taken_49 (fun H locs hW hS hrr => ?_)
          have ho8 := hrr
          refine tb_astore_n (lv' := [(3, rv (ad 8) o8), (0, .ref (ad 11 0)), (1, .int x1), (2, .int x2)]) hx hb dX11_taken_52 rfl hl (by decide) rfl (fun ls hl => ?_)
          refine tb_aload_n hx hb dX11_taken_53 rfl (lv_at hl 0 rfl) ?_
          refine tb_ifnull (tgt := 72) hx hb dX11_taken_54 (by decide) (fun e0 => ?_) (fun a9 ea9 => ?_)
          · replace h := oc_n e0 h
            subst e0
            refine lv_bipush (v := (-12 : Int32)) hx hb dX11_taken_72 (by decide) ?_
            exact tb_iretO h hx hb hr hS hW hlk dX11_taken_74
          · replace h := oc_s ea9 h
            subst ea9
            have la9 := ho8 _ rfl
            refine lv_aload_n hx hb dX11_taken_57 rfl (lv_at hl 1 rfl) ?_
            refine gtX11_10 hx hb hts hown hK hW cz11 dX11_taken_58 ?_
            refine lv_aload_n hx hb dX11_taken_61 rfl (lv_at hl 0 rfl) ?_
            replace h := bd_a h
            obtain ⟨b10, hcb10, h⟩ := h
            refine tb_cVI hZk hx hb hml hown hts hK hZ hW hS [.ref (ad 8 a9)] (mX5_kindNow (l := l) hZk (some a9) M0 (fun z hz => Option.some.inj hz ▸ la9) b10 hcb10) pmX5_kindNow tw612 (Wd.recv hK hW (t := 5) (by decide) cz5 (C := RX5) (T := TX5) (N := 7) rfl) ⟨Nat.le_of_ble_eq_true rfl, Nat.le_of_ble_eq_true rfl⟩ rfl hl.1 (Nat.le_of_ble_eq_true rfl) ⟨Nat.le_refl _, Nat.le_refl _⟩ rfl dX11_taken_62 (fun H locs hW hS => ?_)
            refine lv_iload_n hx hb dX11_taken_65 rfl (lv_at hl 3 rfl) ?_
            replace h := bd_a h
            obtain ⟨b11, hcb11, h⟩ := h
            refine tb_cSZ hZk hx hb hml hown hts hK hZ hW hS [.int b10, .int x2] (mX11_isUnder (l := l) hZk b10 x2 M0 b11 hcb11) pmX11_isUnder tw1207 ⟨Nat.le_of_ble_eq_true rfl, Nat.le_of_ble_eq_true rfl⟩ rfl hl.1 (Nat.le_of_ble_eq_true rfl) ⟨Nat.le_refl _, Nat.le_refl _⟩ rfl dX11_taken_66 (fun H locs hW hS hzz => ?_)
            have hzb11 := hzz
            refine lv_if_ne (tgt := 75) hx hb dX11_taken_69 (by decide) (fun c12 => ?_) (fun c12 => ?_)
            · replace h := sh_f c12 h
              refine lv_aload_n hx hb dX11_taken_75 rfl (lv_at hl 1 rfl) ?_
              refine gtX11_10 hx hb hts hown hK hW cz11 dX11_taken_76 ?_
              refine lv_aload_n hx hb dX11_taken_79 rfl (lv_at hl 0 rfl) ?_
              replace h := bd_a h
              obtain ⟨b13, hcb13, h⟩ := h
              refine tb_cVI hZk hx hb hml hown hts hK hZ hW hS [.ref (ad 8 a9)] (mX5_kindNow (l := l) hZk (some a9) M0 (fun z hz => Option.some.inj hz ▸ la9) b13 hcb13) pmX5_kindNow tw612 (Wd.recv hK hW (t := 5) (by decide) cz5 (C := RX5) (T := TX5) (N := 7) rfl) ⟨Nat.le_of_ble_eq_true rfl, Nat.le_of_ble_eq_true rfl⟩ rfl hl.1 (Nat.le_of_ble_eq_true rfl) ⟨Nat.le_refl _, Nat.le_refl _⟩ rfl dX11_taken_80 (fun H locs hW hS => ?_)
              exact tb_iretO h hx hb hr hS hW hlk dX11_taken_83
            · replace h := sh_t c12 h
              refine lv_bipush (v := (-12 : Int32)) hx hb dX11_taken_72 (by decide) ?_
              exact tb_iretO h hx hb hr hS hW hlk dX11_taken_74
        · replace h := sh_f c6 h
          refine lv_bipush (v := (-11 : Int32)) hx hb dX11_taken_34 (by decide) ?_
          exact tb_iretO h hx hb hr hS hW hlk dX11_taken_36
      · replace h := sh_f c4 h
        refine lv_iconst (v := (-1 : Int32)) hx hb dX11_taken_21 (by decide) ?_
        exact tb_iretO h hx hb hr hS hW hlk dX11_taken_22
