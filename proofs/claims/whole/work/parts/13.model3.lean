def fX12_odds (x1 : Int32) (x2 : Int32) (M0 : Mem) : Option (Int32 × Mem) :=
  nm (fX12_isStone x1 M0) fun b1 => if b1 = 0 then (some ((-1 : Int32), M0)) else (ix x1 64 <| if (mgI M0 5000 0 x1.toNatClampNeg) = (5 : Int32) then (nm (fX12_in x2 (0 : Int32) (1 : Int32)) fun b4 => if b4 = 0 then (some ((-1 : Int32), M0)) else (bE (fX12_findStanding M0) fun u6 M7 => bE (fX12_oddsOf x1 x2 M7) fun b8 M9 => some (b8, M9))) else (some ((-1 : Int32), M0)))
set_option maxHeartbeats 4000000 in
set_option maxRecDepth 100000 in
theorem mX12_odds {l : Launch} {D : va_G} {cy : Nat → ClassId} {A : Nat → Prop} {Z : State → Heap → Prop} {ad : Nat → Nat → Nat} (hZk : ZOK A Z) (x1 : Int32) (x2 : Int32) (M0 : Mem) (r : Int32) (M' : Mem) (h : fX12_odds x1 x2 M0 = some (r, M')) : Met l yX12_odds (wt yX12_odds cX12_odds 3 (some .int)) (rm 4 95) (CPre D cy A Z cnM ad M0 [.ref (ad 12 0), .int x1, .int x2]) (QI D cy A cnM ad r M') 0 0 A := by
  refine tb_start [.ref (ad 12 0), .int x1, .int x2] [(0, .ref (ad 12 0)), (1, .int x1), (2, .int x2)] RX12 rfl (by decide +kernel) (Nat.le_of_ble_eq_true rfl) rfl (fun p e s m args below meth c hx hb hr hml hown hts hlk hW hK hZ ls hl => ?_)
  have hS : va_S A s.heap s.heap [] := va_S.rf
  unfold fX12_odds at h
  refine lv_aload_n hx hb dX12_odds_0 rfl (lv_at hl 0 rfl) ?_
  refine lv_iload_n hx hb dX12_odds_1 rfl (lv_at hl 1 rfl) ?_
  refine tb_cVZ hZk hx hb hml hown hts hK hZ hW hS [.int x1] (mX12_isStone (l := l) hZk x1 M0 (fX12_isStone x1 M0) rfl) pmX12_isStone tw1415 (Wd.recv hK hW (t := 12) (by decide) cz12 (C := RX12) (T := TX12) (N := 58) rfl) ⟨Nat.le_of_ble_eq_true rfl, Nat.le_of_ble_eq_true rfl⟩ rfl hl.1 (Nat.le_of_ble_eq_true rfl) ⟨Nat.le_refl _, Nat.le_refl _⟩ rfl dX12_odds_2 (fun H locs hW hS hzz => ?_)
  refine lv_topi (fun b1 eb1 => ?_)
  have h := nm_a eb1 h
  have hzb1 : b1 = 0 ∨ b1 = 1 := by rw [eb1]; exact hzz
  refine lv_if_eq (tgt := 27) hx hb dX12_odds_5 (by decide) (fun c2 => ?_) (fun c2 => ?_)
  · have h := sh_t c2 h
    refine lv_iconst (v := (-1 : Int32)) hx hb dX12_odds_27 (by decide) ?_
    exact tb_iretE h hx hb hr hS hW hlk dX12_odds_28
  · have h := sh_f c2 h
    refine lv_aload_n hx hb dX12_odds_8 rfl (lv_at hl 0 rfl) ?_
    refine gtX12_7 hx hb hts hown hK hW cz12 dX12_odds_9 ?_
    refine lv_iload_n hx hb dX12_odds_12 rfl (lv_at hl 1 rfl) ?_
    obtain ⟨hj, h⟩ := ix_a h
    refine al50 hx hb hK hW cz50 hj dX12_odds_13 ?_
    refine lv_iconst (v := (5 : Int32)) hx hb dX12_odds_14 (by decide) ?_
    refine lv_icmp_ne (tgt := 27) hx hb dX12_odds_15 (by decide) (fun c3 => ?_) (fun c3 => ?_)
    · have h := sh_f c3 h
      refine lv_iconst (v := (-1 : Int32)) hx hb dX12_odds_27 (by decide) ?_
      exact tb_iretE h hx hb hr hS hW hlk dX12_odds_28
    · have h := sh_t c3 h
      refine lv_iload_n hx hb dX12_odds_18 rfl (lv_at hl 2 rfl) ?_
      refine lv_iconst (v := (0 : Int32)) hx hb dX12_odds_19 (by decide) ?_
      refine lv_iconst (v := (1 : Int32)) hx hb dX12_odds_20 (by decide) ?_
      refine tb_cSZ hZk hx hb hml hown hts hK hZ hW hS [.int x2, .int (0 : Int32), .int (1 : Int32)] (mX12_in (l := l) hZk x2 (0 : Int32) (1 : Int32) M0 (fX12_in x2 (0 : Int32) (1 : Int32)) rfl) pmX12_in tw1401 ⟨Nat.le_of_ble_eq_true rfl, Nat.le_of_ble_eq_true rfl⟩ rfl hl.1 (Nat.le_of_ble_eq_true rfl) ⟨Nat.le_refl _, Nat.le_refl _⟩ rfl dX12_odds_21 (fun H locs hW hS hzz => ?_)
      refine lv_topi (fun b4 eb4 => ?_)
      have h := nm_a eb4 h
      have hzb4 : b4 = 0 ∨ b4 = 1 := by rw [eb4]; exact hzz
      refine lv_if_ne (tgt := 29) hx hb dX12_odds_24 (by decide) (fun c5 => ?_) (fun c5 => ?_)
      · have h := sh_f c5 h
        refine lv_aload_n hx hb dX12_odds_29 rfl (lv_at hl 0 rfl) ?_
        obtain ⟨u6, M7, hcu6, h⟩ := bE_a h
        refine tb_cVV hZk hx hb hml hown hts hK hZ hW hS [] (mX12_findStanding (l := l) hZk M0 u6 M7 hcu6) pmX12_findStanding tw1439 (Wd.recv hK hW (t := 12) (by decide) cz12 (C := RX12) (T := TX12) (N := 58) rfl) ⟨Nat.le_of_ble_eq_true rfl, Nat.le_of_ble_eq_true rfl⟩ rfl hl.1 (Nat.le_of_ble_eq_true rfl) ⟨Nat.le_refl _, Nat.le_refl _⟩ rfl dX12_odds_30 (fun H locs hW hS => ?_)
        refine lv_aload_n hx hb dX12_odds_33 rfl (lv_at hl 0 rfl) ?_
        refine lv_iload_n hx hb dX12_odds_34 rfl (lv_at hl 1 rfl) ?_
        refine lv_iload_n hx hb dX12_odds_35 rfl (lv_at hl 2 rfl) ?_
        obtain ⟨b8, M9, hcb8, h⟩ := bE_a h
        refine tb_cVI hZk hx hb hml hown hts hK hZ hW hS [.int x1, .int x2] (mX12_oddsOf (l := l) hZk x1 x2 M7 b8 M9 hcb8) pmX12_oddsOf tw1617 (Wd.recv hK hW (t := 12) (by decide) cz12 (C := RX12) (T := TX12) (N := 58) rfl) ⟨Nat.le_of_ble_eq_true rfl, Nat.le_of_ble_eq_true rfl⟩ rfl hl.1 (Nat.le_of_ble_eq_true rfl) ⟨Nat.le_refl _, Nat.le_refl _⟩ rfl dX12_odds_36 (fun H locs hW hS => ?_)
        exact tb_iretE h hx hb hr hS hW hlk dX12_odds_39
      · have h := sh_t c5 h
        refine lv_iconst (v := (-1 : Int32)) hx hb dX12_odds_27 (by decide) ?_
        exact tb_iretE h hx hb hr hS hW hlk dX12_odds_28
def fX12_drawFor (x1 : Int32) (x2 : Int32) (M0 : Mem) : Int32 :=
  nm (((((mgI M0 1245 0 0) * (69069 : Int32)) + ((7919 : Int32) * x1)) + ((104729 : Int32) * (mgI M0 1201 0 0))) + ((13 : Int32) * x2)) fun v1 => nm ((v1 ^^^ ((v1.toUInt32 >>> ((15 : Int32).toUInt32 &&& Int32.toUInt32 31)).toInt32)) * (1274126177 : Int32)) fun v2 => ((v2.toUInt32 >>> ((7 : Int32).toUInt32 &&& Int32.toUInt32 31)).toInt32) - ((v2.toUInt32 >>> ((7 : Int32).toUInt32 &&& Int32.toUInt32 31)).toInt32) / (1000 : Int32) * (1000 : Int32)
set_option maxHeartbeats 4000000 in
set_option maxRecDepth 100000 in
theorem mX12_drawFor {l : Launch} {D : va_G} {cy : Nat → ClassId} {A : Nat → Prop} {Z : State → Heap → Prop} {ad : Nat → Nat → Nat} (hZk : ZOK A Z) (x1 : Int32) (x2 : Int32) (M0 : Mem) (r : Int32) (h : fX12_drawFor x1 x2 M0 = r) : Met l yX12_drawFor (wt yX12_drawFor cX12_drawFor 4 (some .int)) (rm 0 0) (CPre D cy A Z cnM ad M0 [.ref (ad 12 0), .int x1, .int x2]) (QI D cy A cnM ad r M0) 0 0 A := by
  refine tb_start [.ref (ad 12 0), .int x1, .int x2] [(0, .ref (ad 12 0)), (1, .int x1), (2, .int x2)] RX12 rfl (by decide +kernel) (Nat.le_of_ble_eq_true rfl) rfl (fun p e s m args below meth c hx hb hr hml hown hts hlk hW hK hZ ls hl => ?_)
  have hS : va_S A s.heap s.heap [] := va_S.rf
  unfold fX12_drawFor at h
  refine lv_aload_n hx hb dX12_drawFor_0 rfl (lv_at hl 0 rfl) ?_
  refine gtX12_329 hx hb hts hown hK hW cz12 dX12_drawFor_1 ?_
  refine lv_ldcw hx hb hown (hts _ tw1640) dX12_drawFor_4 ?_
  refine lv_imul hx hb dX12_drawFor_7 ?_
  refine lv_sipush (v := (7919 : Int32)) hx hb dX12_drawFor_8 (by decide) ?_
  refine lv_iload_n hx hb dX12_drawFor_11 rfl (lv_at hl 1 rfl) ?_
  refine lv_imul hx hb dX12_drawFor_12 ?_
  refine lv_iadd hx hb dX12_drawFor_13 ?_
  refine lv_ldcw hx hb hown (hts _ tw1641) dX12_drawFor_14 ?_
  refine lv_aload_n hx hb dX12_drawFor_17 rfl (lv_at hl 0 rfl) ?_
  refine gtX12_160 hx hb hts hown hK hW cz12 dX12_drawFor_18 ?_
  refine lv_imul hx hb dX12_drawFor_21 ?_
  refine lv_iadd hx hb dX12_drawFor_22 ?_
  refine lv_bipush (v := (13 : Int32)) hx hb dX12_drawFor_23 (by decide) ?_
  refine lv_iload_n hx hb dX12_drawFor_25 rfl (lv_at hl 2 rfl) ?_
  refine lv_imul hx hb dX12_drawFor_26 ?_
  refine lv_iadd hx hb dX12_drawFor_27 ?_
  refine lv_topi (fun v1 ev1 => ?_)
  have h := nm_a ev1 h
  refine lv_istore_n (lv' := [(3, .int v1), (0, .ref (ad 12 0)), (1, .int x1), (2, .int x2)]) hx hb dX12_drawFor_28 rfl hl (by decide) rfl (fun ls hl => ?_)
  refine lv_iload_n hx hb dX12_drawFor_29 rfl (lv_at hl 0 rfl) ?_
  refine lv_iload_n hx hb dX12_drawFor_30 rfl (lv_at hl 0 rfl) ?_
  refine lv_bipush (v := (15 : Int32)) hx hb dX12_drawFor_31 (by decide) ?_
  refine lv_iushr hx hb dX12_drawFor_33 rfl ?_
  refine lv_ixor hx hb dX12_drawFor_34 ?_
  refine lv_ldcw hx hb hown (hts _ tw1642) dX12_drawFor_35 ?_
  refine lv_imul hx hb dX12_drawFor_38 ?_
  refine lv_topi (fun v2 ev2 => ?_)
  have h := nm_a ev2 h
  refine lv_istore_n (lv' := [(3, .int v2), (0, .ref (ad 12 0)), (1, .int x1), (2, .int x2)]) hx hb dX12_drawFor_39 rfl hl (by decide) rfl (fun ls hl => ?_)
  refine lv_iload_n hx hb dX12_drawFor_40 rfl (lv_at hl 0 rfl) ?_
  refine lv_bipush (v := (7 : Int32)) hx hb dX12_drawFor_41 (by decide) ?_
  refine lv_iushr hx hb dX12_drawFor_43 rfl ?_
  refine lv_sipush (v := (1000 : Int32)) hx hb dX12_drawFor_44 (by decide) ?_
  refine lv_irem hx hb dX12_drawFor_47 (by decide) ?_
  exact tb_iretP h hx hb hr hS hW hlk dX12_drawFor_48
def fX12_hears_b38 (x1 : Int32) (k5 : Int32 → Mem → Option (Unit × Mem)) (i6 : Int32) (M7 : Mem) : Option (Unit × Mem) :=
  if (mgI M7 1212 0 0) ≤ i6 then (some ((), M7)) else (ix i6 200 <| if (mgI M7 5900 0 i6.toNatClampNeg) = x1 then (ix i6 200 <| if (mgI M7 6300 0 i6.toNatClampNeg) = 0 then (ix i6 200 <| ix (mgI M7 6000 0 i6.toNatClampNeg) 64 <| if 0 ≤ (mgI M7 5400 0 (mgI M7 6000 0 i6.toNatClampNeg).toNatClampNeg) then (ix i6 200 <| nm (msI M7 6300 0 i6.toNatClampNeg (vp_nar .boolean (1 : Int32))) fun M14 => nm (i6 + (1 : Int32)) fun v15 => k5 v15 M14) else (nm (i6 + (1 : Int32)) fun v16 => k5 v16 M7)) else (nm (i6 + (1 : Int32)) fun v12 => k5 v12 M7)) else (nm (i6 + (1 : Int32)) fun v10 => k5 v10 M7))
def fX12_hears_l38 (x1 : Int32) : Nat → Int32 → Mem → Option (Unit × Mem)
  | 0, _, _ => none
  | n + 1, i6, M7 => fX12_hears_b38 x1 (fX12_hears_l38 x1 n) i6 M7
def fX12_hears_b38_18 (x1 : Int32) (k18 : Int32 → Mem → Option (Unit × Mem)) (i19 : Int32) (M20 : Mem) : Option (Unit × Mem) :=
  if (mgI M20 1212 0 0) ≤ i19 then (some ((), M20)) else (ix i19 200 <| if (mgI M20 5900 0 i19.toNatClampNeg) = x1 then (ix i19 200 <| if (mgI M20 6300 0 i19.toNatClampNeg) = 0 then (ix i19 200 <| ix (mgI M20 6000 0 i19.toNatClampNeg) 64 <| if 0 ≤ (mgI M20 5400 0 (mgI M20 6000 0 i19.toNatClampNeg).toNatClampNeg) then (ix i19 200 <| nm (msI M20 6100 0 i19.toNatClampNeg (99 : Int32)) fun M27 => nm (i19 + (1 : Int32)) fun v28 => k18 v28 M27) else (nm (i19 + (1 : Int32)) fun v29 => k18 v29 M20)) else (nm (i19 + (1 : Int32)) fun v25 => k18 v25 M20)) else (nm (i19 + (1 : Int32)) fun v23 => k18 v23 M20))
def fX12_hears_l38_18 (x1 : Int32) : Nat → Int32 → Mem → Option (Unit × Mem)
  | 0, _, _ => none
  | n + 1, i19, M20 => fX12_hears_b38_18 x1 (fX12_hears_l38_18 x1 n) i19 M20
def fX12_hears (x1 : Int32) (M0 : Mem) : Option (Unit × Mem) :=
  bE (fX12_oddsOf x1 (1 : Int32) M0) fun b1 M2 => if b1 ≤ (fX12_drawFor x1 (1 : Int32) M0) then (ix x1 64 <| nm (msI M2 5700 0 x1.toNatClampNeg (1 : Int32)) fun M4 => fX12_hears_l38 x1 FU (0 : Int32) M4) else (ix x1 64 <| nm (msI M2 5700 0 x1.toNatClampNeg (2 : Int32)) fun M17 => fX12_hears_l38_18 x1 FU (0 : Int32) M17)
set_option maxHeartbeats 4000000 in
set_option maxRecDepth 100000 in
theorem mX12_hears {l : Launch} {D : va_G} {cy : Nat → ClassId} {A : Nat → Prop} {Z : State → Heap → Prop} {ad : Nat → Nat → Nat} (hZk : ZOK A Z) (x1 : Int32) (M0 : Mem) (r : Unit) (M' : Mem) (h : fX12_hears x1 M0 = some (r, M')) : Met l yX12_hears (wt yX12_hears cX12_hears 4 none) (rm 4 95) (CPre D cy A Z cnM ad M0 [.ref (ad 12 0), .int x1]) (QV D cy A cnM ad r M') 0 0 A := by
  refine tb_start [.ref (ad 12 0), .int x1] [(0, .ref (ad 12 0)), (1, .int x1)] RX12 rfl (by decide +kernel) (Nat.le_of_ble_eq_true rfl) rfl (fun p e s m args below meth c hx hb hr hml hown hts hlk hW hK hZ ls hl => ?_)
  have hS : va_S A s.heap s.heap [] := va_S.rf
  unfold fX12_hears at h
  refine lv_aload_n hx hb dX12_hears_0 rfl (lv_at hl 0 rfl) ?_
  refine lv_iload_n hx hb dX12_hears_1 rfl (lv_at hl 1 rfl) ?_
  refine lv_iconst (v := (1 : Int32)) hx hb dX12_hears_2 (by decide) ?_
  refine tb_cVI hZk hx hb hml hown hts hK hZ hW hS [.int x1, .int (1 : Int32)] (mX12_drawFor (l := l) hZk x1 (1 : Int32) M0 (fX12_drawFor x1 (1 : Int32) M0) rfl) pmX12_drawFor tw1636 (Wd.recv hK hW (t := 12) (by decide) cz12 (C := RX12) (T := TX12) (N := 58) rfl) ⟨Nat.le_of_ble_eq_true rfl, Nat.le_of_ble_eq_true rfl⟩ rfl hl.1 (Nat.le_of_ble_eq_true rfl) ⟨Nat.le_refl _, Nat.le_refl _⟩ rfl dX12_hears_3 (fun H locs hW hS => ?_)
  refine lv_aload_n hx hb dX12_hears_6 rfl (lv_at hl 0 rfl) ?_
  refine lv_iload_n hx hb dX12_hears_7 rfl (lv_at hl 1 rfl) ?_
  refine lv_iconst (v := (1 : Int32)) hx hb dX12_hears_8 (by decide) ?_
  obtain ⟨b1, M2, hcb1, h⟩ := bE_a h
  refine tb_cVI hZk hx hb hml hown hts hK hZ hW hS [.int x1, .int (1 : Int32)] (mX12_oddsOf (l := l) hZk x1 (1 : Int32) M0 b1 M2 hcb1) pmX12_oddsOf tw1617 (Wd.recv hK hW (t := 12) (by decide) cz12 (C := RX12) (T := TX12) (N := 58) rfl) ⟨Nat.le_of_ble_eq_true rfl, Nat.le_of_ble_eq_true rfl⟩ rfl hl.1 (Nat.le_of_ble_eq_true rfl) ⟨Nat.le_refl _, Nat.le_refl _⟩ rfl dX12_hears_9 (fun H locs hW hS => ?_)
  refine lv_icmp_ge (tgt := 19) hx hb dX12_hears_12 (by decide) (fun c3 => ?_) (fun c3 => ?_)
  · have h := sh_t c3 h
    refine lv_iconst (v := (0 : Int32)) hx hb dX12_hears_19 (by decide) ?_
    refine lv_istore_n (lv' := [(2, .int (0 : Int32)), (0, .ref (ad 12 0)), (1, .int x1)]) hx hb dX12_hears_20 rfl hl (by decide) rfl (fun ls hl => ?_)
    refine lv_aload_n hx hb dX12_hears_21 rfl (lv_at hl 1 rfl) ?_
    refine gtX12_31 hx hb hts hown hK hW cz12 dX12_hears_22 ?_
    refine lv_iload_n hx hb dX12_hears_25 rfl (lv_at hl 2 rfl) ?_
    refine lv_iload_n hx hb dX12_hears_26 rfl (lv_at hl 0 rfl) ?_
    refine lv_if_eq (tgt := 34) hx hb dX12_hears_27 (by decide) (fun _ => ?_) (fun hc => absurd hc (by decide))
    refine lv_iconst (v := (1 : Int32)) hx hb dX12_hears_34 (by decide) ?_
    obtain ⟨hj, h⟩ := ix_a h
    refine as57 hx hb hK hW hS cz57 hj dX12_hears_35 (fun H locs hW hS => ?_)
    obtain ⟨M4, eM4⟩ : ∃ y, y = msI M2 5700 0 x1.toNatClampNeg (1 : Int32) := ⟨_, rfl⟩
    have h := nm_a eM4 h
    rw [← eM4] at hW
    refine lv_iconst (v := (0 : Int32)) hx hb dX12_hears_36 (by decide) ?_
    refine lv_istore_n (lv' := [(3, .int (0 : Int32)), (2, .int (0 : Int32)), (0, .ref (ad 12 0)), (1, .int x1)]) hx hb dX12_hears_37 rfl hl (by decide) rfl (fun ls hl => ?_)
    have L5 : ∀ (n5 : Nat) (i6 : Int32) (M7 : Mem) (H : Heap) (locs : List Loc) (ls : Array Slot), Wd D cy A cnM ad M7 H → va_S A s.heap H locs → lv_has ls 4 [(0, .ref (ad 12 0)), (1, .int x1), (2, .int (0 : Int32)), (3, .int i6)] → fX12_hears_l38 x1 n5 i6 M7 = some (r, M') → W p l e (rm 4 95) s m args below meth c H locs 0 0 (MQ below (QV D cy A cnM ad r M') args s 0 0 A) (F0 m 38 ls []) := by
      intro n5
      induction n5 with
      | zero => intro i6 M7 H locs ls hW hS hl h; cases h
      | succ n5 ih5 =>
        intro i6 M7 H locs ls hW hS hl h
        unfold fX12_hears_l38 fX12_hears_b38 at h
        refine lv_iload_n hx hb dX12_hears_38 rfl (lv_at hl 3 rfl) ?_
        refine lv_aload_n hx hb dX12_hears_39 rfl (lv_at hl 0 rfl) ?_
        refine gtX12_154 hx hb hts hown hK hW cz12 dX12_hears_40 ?_
        refine lv_icmp_ge (tgt := 110) hx hb dX12_hears_43 (by decide) (fun c8 => ?_) (fun c8 => ?_)
        · have h := sh_t c8 h
          exact tb_vretE h hx hb hr hS hW hlk dX12_hears_110
        · have h := sh_f c8 h
          refine lv_aload_n hx hb dX12_hears_46 rfl (lv_at hl 0 rfl) ?_
          refine gtX12_38 hx hb hts hown hK hW cz12 dX12_hears_47 ?_
          refine lv_iload_n hx hb dX12_hears_50 rfl (lv_at hl 3 rfl) ?_
          obtain ⟨hj, h⟩ := ix_a h
          refine al59 hx hb hK hW cz59 hj dX12_hears_51 ?_
          refine lv_iload_n hx hb dX12_hears_52 rfl (lv_at hl 1 rfl) ?_
          refine lv_icmp_ne (tgt := 104) hx hb dX12_hears_53 (by decide) (fun c9 => ?_) (fun c9 => ?_)
          · have h := sh_f c9 h
            obtain ⟨v10, ev10⟩ : ∃ y : Int32, y = i6 + (1 : Int32) := ⟨_, rfl⟩
            have h := nm_a ev10 h
            refine lv_iinc (v := v10) (lv' := [(3, .int v10), (0, .ref (ad 12 0)), (1, .int x1), (2, .int (0 : Int32))]) hx hb dX12_hears_104 hl (k := 3) rfl (by rw [ev10]; rfl) (by decide) rfl (fun ls hl => ?_)
            refine lv_goto (tgt := 38) hx hb dX12_hears_107 (by decide) ?_
            exact ih5 v10 M7 _ _ _ hW hS (lv_sub hl [1, 2, 3, 0] rfl) h
          · have h := sh_t c9 h
            refine lv_aload_n hx hb dX12_hears_56 rfl (lv_at hl 0 rfl) ?_
            refine gtX12_50 hx hb hts hown hK hW cz12 dX12_hears_57 ?_
            refine lv_iload_n hx hb dX12_hears_60 rfl (lv_at hl 3 rfl) ?_
            obtain ⟨hj, h⟩ := ix_a h
            refine al63 hx hb hK hW cz63 hj dX12_hears_61 ?_
            refine lv_if_ne (tgt := 104) hx hb dX12_hears_62 (by decide) (fun c11 => ?_) (fun c11 => ?_)
            · have h := sh_f c11 h
              obtain ⟨v12, ev12⟩ : ∃ y : Int32, y = i6 + (1 : Int32) := ⟨_, rfl⟩
              have h := nm_a ev12 h
              refine lv_iinc (v := v12) (lv' := [(3, .int v12), (0, .ref (ad 12 0)), (1, .int x1), (2, .int (0 : Int32))]) hx hb dX12_hears_104 hl (k := 3) rfl (by rw [ev12]; rfl) (by decide) rfl (fun ls hl => ?_)
              refine lv_goto (tgt := 38) hx hb dX12_hears_107 (by decide) ?_
              exact ih5 v12 M7 _ _ _ hW hS (lv_sub hl [1, 2, 3, 0] rfl) h
            · have h := sh_t c11 h
              refine lv_aload_n hx hb dX12_hears_65 rfl (lv_at hl 0 rfl) ?_
              refine gtX12_22 hx hb hts hown hK hW cz12 dX12_hears_66 ?_
              refine lv_aload_n hx hb dX12_hears_69 rfl (lv_at hl 0 rfl) ?_
              refine gtX12_41 hx hb hts hown hK hW cz12 dX12_hears_70 ?_
              refine lv_iload_n hx hb dX12_hears_73 rfl (lv_at hl 3 rfl) ?_
              obtain ⟨hj, h⟩ := ix_a h
              refine al60 hx hb hK hW cz60 hj dX12_hears_74 ?_
              obtain ⟨hj, h⟩ := ix_a h
              refine al54 hx hb hK hW cz54 hj dX12_hears_75 ?_
              refine lv_if_ge (tgt := 82) hx hb dX12_hears_76 (by decide) (fun c13 => ?_) (fun c13 => ?_)
              · have h := sh_t c13 h
                refine lv_iload_n hx hb dX12_hears_82 rfl (lv_at hl 2 rfl) ?_
                refine lv_if_eq (tgt := 97) hx hb dX12_hears_83 (by decide) (fun _ => ?_) (fun hc => absurd hc (by decide))
                refine lv_aload_n hx hb dX12_hears_97 rfl (lv_at hl 0 rfl) ?_
                refine gtX12_50 hx hb hts hown hK hW cz12 dX12_hears_98 ?_
                refine lv_iload_n hx hb dX12_hears_101 rfl (lv_at hl 3 rfl) ?_
                refine lv_iconst (v := (1 : Int32)) hx hb dX12_hears_102 (by decide) ?_
                obtain ⟨hj, h⟩ := ix_a h
                refine as63 hx hb hK hW hS cz63 hj dX12_hears_103 (fun H locs hW hS => ?_)
                obtain ⟨M14, eM14⟩ : ∃ y, y = msI M7 6300 0 i6.toNatClampNeg (vp_nar .boolean (1 : Int32)) := ⟨_, rfl⟩
                have h := nm_a eM14 h
                rw [← eM14] at hW
                obtain ⟨v15, ev15⟩ : ∃ y : Int32, y = i6 + (1 : Int32) := ⟨_, rfl⟩
                have h := nm_a ev15 h
                refine lv_iinc (v := v15) (lv' := [(3, .int v15), (0, .ref (ad 12 0)), (1, .int x1), (2, .int (0 : Int32))]) hx hb dX12_hears_104 hl (k := 3) rfl (by rw [ev15]; rfl) (by decide) rfl (fun ls hl => ?_)
                refine lv_goto (tgt := 38) hx hb dX12_hears_107 (by decide) ?_
                exact ih5 v15 M14 _ _ _ hW hS (lv_sub hl [1, 2, 3, 0] rfl) h
              · have h := sh_f c13 h
                refine lv_goto (tgt := 104) hx hb dX12_hears_79 (by decide) ?_
                obtain ⟨v16, ev16⟩ : ∃ y : Int32, y = i6 + (1 : Int32) := ⟨_, rfl⟩
                have h := nm_a ev16 h
                refine lv_iinc (v := v16) (lv' := [(3, .int v16), (0, .ref (ad 12 0)), (1, .int x1), (2, .int (0 : Int32))]) hx hb dX12_hears_104 hl (k := 3) rfl (by rw [ev16]; rfl) (by decide) rfl (fun ls hl => ?_)
                refine lv_goto (tgt := 38) hx hb dX12_hears_107 (by decide) ?_
                exact ih5 v16 M7 _ _ _ hW hS (lv_sub hl [1, 2, 3, 0] rfl) h
    exact L5 FU (0 : Int32) M4 _ _ _ hW hS (lv_sub hl [2, 3, 1, 0] rfl) h
  · have h := sh_f c3 h
    refine lv_iconst (v := (1 : Int32)) hx hb dX12_hears_15 (by decide) ?_
    refine lv_goto (tgt := 20) hx hb dX12_hears_16 (by decide) ?_
    refine lv_istore_n (lv' := [(2, .int (1 : Int32)), (0, .ref (ad 12 0)), (1, .int x1)]) hx hb dX12_hears_20 rfl hl (by decide) rfl (fun ls hl => ?_)
    refine lv_aload_n hx hb dX12_hears_21 rfl (lv_at hl 1 rfl) ?_
    refine gtX12_31 hx hb hts hown hK hW cz12 dX12_hears_22 ?_
    refine lv_iload_n hx hb dX12_hears_25 rfl (lv_at hl 2 rfl) ?_
    refine lv_iload_n hx hb dX12_hears_26 rfl (lv_at hl 0 rfl) ?_
    refine lv_if_eq (tgt := 34) hx hb dX12_hears_27 (by decide) (fun hc => absurd hc (by decide)) (fun _ => ?_)
    refine lv_iconst (v := (2 : Int32)) hx hb dX12_hears_30 (by decide) ?_
    refine lv_goto (tgt := 35) hx hb dX12_hears_31 (by decide) ?_
    obtain ⟨hj, h⟩ := ix_a h
    refine as57 hx hb hK hW hS cz57 hj dX12_hears_35 (fun H locs hW hS => ?_)
    obtain ⟨M17, eM17⟩ : ∃ y, y = msI M2 5700 0 x1.toNatClampNeg (2 : Int32) := ⟨_, rfl⟩
    have h := nm_a eM17 h
    rw [← eM17] at hW
    refine lv_iconst (v := (0 : Int32)) hx hb dX12_hears_36 (by decide) ?_
    refine lv_istore_n (lv' := [(3, .int (0 : Int32)), (2, .int (1 : Int32)), (0, .ref (ad 12 0)), (1, .int x1)]) hx hb dX12_hears_37 rfl hl (by decide) rfl (fun ls hl => ?_)
    have L18 : ∀ (n18 : Nat) (i19 : Int32) (M20 : Mem) (H : Heap) (locs : List Loc) (ls : Array Slot), Wd D cy A cnM ad M20 H → va_S A s.heap H locs → lv_has ls 4 [(0, .ref (ad 12 0)), (1, .int x1), (2, .int (1 : Int32)), (3, .int i19)] → fX12_hears_l38_18 x1 n18 i19 M20 = some (r, M') → W p l e (rm 4 95) s m args below meth c H locs 0 0 (MQ below (QV D cy A cnM ad r M') args s 0 0 A) (F0 m 38 ls []) := by
      intro n18
      induction n18 with
      | zero => intro i19 M20 H locs ls hW hS hl h; cases h
      | succ n18 ih18 =>
        intro i19 M20 H locs ls hW hS hl h
        unfold fX12_hears_l38_18 fX12_hears_b38_18 at h
        refine lv_iload_n hx hb dX12_hears_38 rfl (lv_at hl 3 rfl) ?_
        refine lv_aload_n hx hb dX12_hears_39 rfl (lv_at hl 0 rfl) ?_
        refine gtX12_154 hx hb hts hown hK hW cz12 dX12_hears_40 ?_
        refine lv_icmp_ge (tgt := 110) hx hb dX12_hears_43 (by decide) (fun c21 => ?_) (fun c21 => ?_)
        · have h := sh_t c21 h
          exact tb_vretE h hx hb hr hS hW hlk dX12_hears_110
        · have h := sh_f c21 h
          refine lv_aload_n hx hb dX12_hears_46 rfl (lv_at hl 0 rfl) ?_
          refine gtX12_38 hx hb hts hown hK hW cz12 dX12_hears_47 ?_
          refine lv_iload_n hx hb dX12_hears_50 rfl (lv_at hl 3 rfl) ?_
          obtain ⟨hj, h⟩ := ix_a h
          refine al59 hx hb hK hW cz59 hj dX12_hears_51 ?_
          refine lv_iload_n hx hb dX12_hears_52 rfl (lv_at hl 1 rfl) ?_
          refine lv_icmp_ne (tgt := 104) hx hb dX12_hears_53 (by decide) (fun c22 => ?_) (fun c22 => ?_)
          · have h := sh_f c22 h
            obtain ⟨v23, ev23⟩ : ∃ y : Int32, y = i19 + (1 : Int32) := ⟨_, rfl⟩
            have h := nm_a ev23 h
            refine lv_iinc (v := v23) (lv' := [(3, .int v23), (0, .ref (ad 12 0)), (1, .int x1), (2, .int (1 : Int32))]) hx hb dX12_hears_104 hl (k := 3) rfl (by rw [ev23]; rfl) (by decide) rfl (fun ls hl => ?_)
            refine lv_goto (tgt := 38) hx hb dX12_hears_107 (by decide) ?_
            exact ih18 v23 M20 _ _ _ hW hS (lv_sub hl [1, 2, 3, 0] rfl) h
          · have h := sh_t c22 h
            refine lv_aload_n hx hb dX12_hears_56 rfl (lv_at hl 0 rfl) ?_
            refine gtX12_50 hx hb hts hown hK hW cz12 dX12_hears_57 ?_
            refine lv_iload_n hx hb dX12_hears_60 rfl (lv_at hl 3 rfl) ?_
            obtain ⟨hj, h⟩ := ix_a h
            refine al63 hx hb hK hW cz63 hj dX12_hears_61 ?_
            refine lv_if_ne (tgt := 104) hx hb dX12_hears_62 (by decide) (fun c24 => ?_) (fun c24 => ?_)
            · have h := sh_f c24 h
              obtain ⟨v25, ev25⟩ : ∃ y : Int32, y = i19 + (1 : Int32) := ⟨_, rfl⟩
              have h := nm_a ev25 h
              refine lv_iinc (v := v25) (lv' := [(3, .int v25), (0, .ref (ad 12 0)), (1, .int x1), (2, .int (1 : Int32))]) hx hb dX12_hears_104 hl (k := 3) rfl (by rw [ev25]; rfl) (by decide) rfl (fun ls hl => ?_)
              refine lv_goto (tgt := 38) hx hb dX12_hears_107 (by decide) ?_
              exact ih18 v25 M20 _ _ _ hW hS (lv_sub hl [1, 2, 3, 0] rfl) h
            · have h := sh_t c24 h
              refine lv_aload_n hx hb dX12_hears_65 rfl (lv_at hl 0 rfl) ?_
              refine gtX12_22 hx hb hts hown hK hW cz12 dX12_hears_66 ?_
              refine lv_aload_n hx hb dX12_hears_69 rfl (lv_at hl 0 rfl) ?_
              refine gtX12_41 hx hb hts hown hK hW cz12 dX12_hears_70 ?_
              refine lv_iload_n hx hb dX12_hears_73 rfl (lv_at hl 3 rfl) ?_
              obtain ⟨hj, h⟩ := ix_a h
              refine al60 hx hb hK hW cz60 hj dX12_hears_74 ?_
              obtain ⟨hj, h⟩ := ix_a h
              refine al54 hx hb hK hW cz54 hj dX12_hears_75 ?_
              refine lv_if_ge (tgt := 82) hx hb dX12_hears_76 (by decide) (fun c26 => ?_) (fun c26 => ?_)
              · have h := sh_t c26 h
                refine lv_iload_n hx hb dX12_hears_82 rfl (lv_at hl 2 rfl) ?_
                refine lv_if_eq (tgt := 97) hx hb dX12_hears_83 (by decide) (fun hc => absurd hc (by decide)) (fun _ => ?_)
                refine lv_aload_n hx hb dX12_hears_86 rfl (lv_at hl 0 rfl) ?_
                refine gtX12_44 hx hb hts hown hK hW cz12 dX12_hears_87 ?_
                refine lv_iload_n hx hb dX12_hears_90 rfl (lv_at hl 3 rfl) ?_
                refine lv_bipush (v := (99 : Int32)) hx hb dX12_hears_91 (by decide) ?_
                obtain ⟨hj, h⟩ := ix_a h
                refine as61 hx hb hK hW hS cz61 hj dX12_hears_93 (fun H locs hW hS => ?_)
                obtain ⟨M27, eM27⟩ : ∃ y, y = msI M20 6100 0 i19.toNatClampNeg (99 : Int32) := ⟨_, rfl⟩
                have h := nm_a eM27 h
                rw [← eM27] at hW
                refine lv_goto (tgt := 104) hx hb dX12_hears_94 (by decide) ?_
                obtain ⟨v28, ev28⟩ : ∃ y : Int32, y = i19 + (1 : Int32) := ⟨_, rfl⟩
                have h := nm_a ev28 h
                refine lv_iinc (v := v28) (lv' := [(3, .int v28), (0, .ref (ad 12 0)), (1, .int x1), (2, .int (1 : Int32))]) hx hb dX12_hears_104 hl (k := 3) rfl (by rw [ev28]; rfl) (by decide) rfl (fun ls hl => ?_)
                refine lv_goto (tgt := 38) hx hb dX12_hears_107 (by decide) ?_
                exact ih18 v28 M27 _ _ _ hW hS (lv_sub hl [1, 2, 3, 0] rfl) h
              · have h := sh_f c26 h
                refine lv_goto (tgt := 104) hx hb dX12_hears_79 (by decide) ?_
                obtain ⟨v29, ev29⟩ : ∃ y : Int32, y = i19 + (1 : Int32) := ⟨_, rfl⟩
                have h := nm_a ev29 h
                refine lv_iinc (v := v29) (lv' := [(3, .int v29), (0, .ref (ad 12 0)), (1, .int x1), (2, .int (1 : Int32))]) hx hb dX12_hears_104 hl (k := 3) rfl (by rw [ev29]; rfl) (by decide) rfl (fun ls hl => ?_)
                refine lv_goto (tgt := 38) hx hb dX12_hears_107 (by decide) ?_
                exact ih18 v29 M20 _ _ _ hW hS (lv_sub hl [1, 2, 3, 0] rfl) h
    exact L18 FU (0 : Int32) M17 _ _ _ hW hS (lv_sub hl [2, 3, 1, 0] rfl) h
def fX12_months_b46 (i6 : Int32) (k4 : Int32 → Int32 → Mem → Option (Int32 × Mem)) (k11 : Int32 → Int32 → Mem → Option (Int32 × Mem)) (i12 : Int32) (i13 : Int32) (M14 : Mem) : Option (Int32 × Mem) :=
  if (mgI M14 1202 0 0) ≤ i13 then (nm (i6 + (1 : Int32)) fun v16 => k4 i12 v16 M14) else (ix i13 64 <| if (mgI M14 5000 0 i13.toNatClampNeg) = (5 : Int32) then (ix i13 64 <| if (mgI M14 5700 0 i13.toNatClampNeg) ≤ 0 then (bE (fX12_findStanding M14) fun u20 M21 => bd (fX12_isStill i13 M21) fun b22 => if b22 = 0 then (nm (i13 + (1 : Int32)) fun v24 => k11 i12 v24 M21) else (bE (fX12_oddsOf i13 (0 : Int32) M21) fun b25 M26 => if (fX12_drawFor i13 (0 : Int32) M21) < b25 then (bE (fX12_hears i13 M26) fun u28 M29 => nm (i12 + (1 : Int32)) fun v30 => nm (i13 + (1 : Int32)) fun v31 => k11 v30 v31 M29) else (nm (i13 + (1 : Int32)) fun v32 => k11 i12 v32 M26))) else (nm (i13 + (1 : Int32)) fun v33 => k11 i12 v33 M14)) else (nm (i13 + (1 : Int32)) fun v18 => k11 i12 v18 M14))
def fX12_months_l46 (i6 : Int32) (k4 : Int32 → Int32 → Mem → Option (Int32 × Mem)) : Nat → Int32 → Int32 → Mem → Option (Int32 × Mem)
  | 0, _, _, _ => none
  | n + 1, i12, i13, M14 => fX12_months_b46 i6 k4 (fX12_months_l46 i6 k4 n) i12 i13 M14
def fX12_months_b28 (x1 : Int32) (k4 : Int32 → Int32 → Mem → Option (Int32 × Mem)) (i5 : Int32) (i6 : Int32) (M7 : Mem) : Option (Int32 × Mem) :=
  if x1 ≤ i6 then (some (i5, M7)) else (nm ((mgI M7 1201 0 0) + (1 : Int32)) fun v9 => nm (msI M7 1201 0 0 v9) fun M10 => fX12_months_l46 i6 k4 FU i5 (0 : Int32) M10)
def fX12_months_l28 (x1 : Int32) : Nat → Int32 → Int32 → Mem → Option (Int32 × Mem)
  | 0, _, _, _ => none
  | n + 1, i5, i6, M7 => fX12_months_b28 x1 (fX12_months_l28 x1 n) i5 i6 M7
def fX12_months (x1 : Int32) (M0 : Mem) : Option (Int32 × Mem) :=
  nm (fX12_in x1 (1 : Int32) (24 : Int32)) fun b1 => if b1 = 0 then (some ((-1 : Int32), M0)) else (if ((mgI M0 1201 0 0) + x1) ≤ (599 : Int32) then (fX12_months_l28 x1 FU (0 : Int32) (0 : Int32) M0) else (some ((-1 : Int32), M0)))
set_option maxHeartbeats 4000000 in
set_option maxRecDepth 100000 in
theorem mX12_months {l : Launch} {D : va_G} {cy : Nat → ClassId} {A : Nat → Prop} {Z : State → Heap → Prop} {ad : Nat → Nat → Nat} (hZk : ZOK A Z) (x1 : Int32) (M0 : Mem) (r : Int32) (M' : Mem) (h : fX12_months x1 M0 = some (r, M')) : Met l yX12_months (wt yX12_months cX12_months 5 (some .int)) (rm 5 118) (CPre D cy A Z cnM ad M0 [.ref (ad 12 0), .int x1]) (QI D cy A cnM ad r M') 0 0 A := by
  refine tb_start [.ref (ad 12 0), .int x1] [(0, .ref (ad 12 0)), (1, .int x1)] RX12 rfl (by decide +kernel) (Nat.le_of_ble_eq_true rfl) rfl (fun p e s m args below meth c hx hb hr hml hown hts hlk hW hK hZ ls hl => ?_)
  have hS : va_S A s.heap s.heap [] := va_S.rf
  unfold fX12_months at h
  refine lv_iload_n hx hb dX12_months_0 rfl (lv_at hl 1 rfl) ?_
  refine lv_iconst (v := (1 : Int32)) hx hb dX12_months_1 (by decide) ?_
  refine lv_bipush (v := (24 : Int32)) hx hb dX12_months_2 (by decide) ?_
  refine tb_cSZ hZk hx hb hml hown hts hK hZ hW hS [.int x1, .int (1 : Int32), .int (24 : Int32)] (mX12_in (l := l) hZk x1 (1 : Int32) (24 : Int32) M0 (fX12_in x1 (1 : Int32) (24 : Int32)) rfl) pmX12_in tw1401 ⟨Nat.le_of_ble_eq_true rfl, Nat.le_of_ble_eq_true rfl⟩ rfl hl.1 (Nat.le_of_ble_eq_true rfl) ⟨Nat.le_refl _, Nat.le_refl _⟩ rfl dX12_months_4 (fun H locs hW hS hzz => ?_)
  refine lv_topi (fun b1 eb1 => ?_)
  have h := nm_a eb1 h
  have hzb1 : b1 = 0 ∨ b1 = 1 := by rw [eb1]; exact hzz
  refine lv_if_eq (tgt := 22) hx hb dX12_months_7 (by decide) (fun c2 => ?_) (fun c2 => ?_)
  · have h := sh_t c2 h
    refine lv_iconst (v := (-1 : Int32)) hx hb dX12_months_22 (by decide) ?_
    exact tb_iretE h hx hb hr hS hW hlk dX12_months_23
  · have h := sh_f c2 h
    refine lv_aload_n hx hb dX12_months_10 rfl (lv_at hl 0 rfl) ?_
    refine gtX12_160 hx hb hts hown hK hW cz12 dX12_months_11 ?_
    refine lv_iload_n hx hb dX12_months_14 rfl (lv_at hl 1 rfl) ?_
    refine lv_iadd hx hb dX12_months_15 ?_
    refine lv_sipush (v := (599 : Int32)) hx hb dX12_months_16 (by decide) ?_
    refine lv_icmp_le (tgt := 24) hx hb dX12_months_19 (by decide) (fun c3 => ?_) (fun c3 => ?_)
    · have h := sh_t c3 h
      refine lv_iconst (v := (0 : Int32)) hx hb dX12_months_24 (by decide) ?_
      refine lv_istore_n (lv' := [(2, .int (0 : Int32)), (0, .ref (ad 12 0)), (1, .int x1)]) hx hb dX12_months_25 rfl hl (by decide) rfl (fun ls hl => ?_)
      refine lv_iconst (v := (0 : Int32)) hx hb dX12_months_26 (by decide) ?_
      refine lv_istore_n (lv' := [(3, .int (0 : Int32)), (2, .int (0 : Int32)), (0, .ref (ad 12 0)), (1, .int x1)]) hx hb dX12_months_27 rfl hl (by decide) rfl (fun ls hl => ?_)
      have L4 : ∀ (n4 : Nat) (i5 : Int32) (i6 : Int32) (M7 : Mem) (H : Heap) (locs : List Loc) (ls : Array Slot), Wd D cy A cnM ad M7 H → va_S A s.heap H locs → lv_has ls 5 [(0, .ref (ad 12 0)), (1, .int x1), (2, .int i5), (3, .int i6)] → fX12_months_l28 x1 n4 i5 i6 M7 = some (r, M') → W p l e (rm 5 118) s m args below meth c H locs 0 0 (MQ below (QI D cy A cnM ad r M') args s 0 0 A) (F0 m 28 ls []) := by
        intro n4
        induction n4 with
        | zero => intro i5 i6 M7 H locs ls hW hS hl h; cases h
        | succ n4 ih4 =>
          intro i5 i6 M7 H locs ls hW hS hl h
          unfold fX12_months_l28 fX12_months_b28 at h
          refine lv_iload_n hx hb dX12_months_28 rfl (lv_at hl 3 rfl) ?_
          refine lv_iload_n hx hb dX12_months_29 rfl (lv_at hl 1 rfl) ?_
          refine lv_icmp_ge (tgt := 133) hx hb dX12_months_30 (by decide) (fun c8 => ?_) (fun c8 => ?_)
          · have h := sh_t c8 h
            refine lv_iload_n hx hb dX12_months_133 rfl (lv_at hl 2 rfl) ?_
            exact tb_iretE h hx hb hr hS hW hlk dX12_months_134
          · have h := sh_f c8 h
            refine lv_aload_n hx hb dX12_months_33 rfl (lv_at hl 0 rfl) ?_
            refine lv_dup hx hb dX12_months_34 rfl ?_
            refine gtX12_160 hx hb hts hown hK hW cz12 dX12_months_35 ?_
            refine lv_iconst (v := (1 : Int32)) hx hb dX12_months_38 (by decide) ?_
            refine lv_iadd hx hb dX12_months_39 ?_
            refine lv_topi (fun v9 ev9 => ?_)
            have h := nm_a ev9 h
            refine ptX12_160 hx hb hts hown hK hW hS cz12 dX12_months_40 (fun H locs hW hS => ?_)
            obtain ⟨M10, eM10⟩ : ∃ y, y = msI M7 1201 0 0 v9 := ⟨_, rfl⟩
            have h := nm_a eM10 h
            rw [← eM10] at hW
            refine lv_iconst (v := (0 : Int32)) hx hb dX12_months_43 (by decide) ?_
            refine lv_istore (lv' := [(4, .int (0 : Int32)), (0, .ref (ad 12 0)), (1, .int x1), (2, .int i5), (3, .int i6)]) hx hb dX12_months_44 hl (by decide) rfl (fun ls hl => ?_)
            have L11 : ∀ (n11 : Nat) (i12 : Int32) (i13 : Int32) (M14 : Mem) (H : Heap) (locs : List Loc) (ls : Array Slot), Wd D cy A cnM ad M14 H → va_S A s.heap H locs → lv_has ls 5 [(0, .ref (ad 12 0)), (1, .int x1), (2, .int i12), (3, .int i6), (4, .int i13)] → fX12_months_l46 i6 (fX12_months_l28 x1 n4) n11 i12 i13 M14 = some (r, M') → W p l e (rm 5 118) s m args below meth c H locs 0 0 (MQ below (QI D cy A cnM ad r M') args s 0 0 A) (F0 m 46 ls []) := by
              intro n11
              induction n11 with
              | zero => intro i12 i13 M14 H locs ls hW hS hl h; cases h
              | succ n11 ih11 =>
                intro i12 i13 M14 H locs ls hW hS hl h
                unfold fX12_months_l46 fX12_months_b46 at h
                refine lv_iload hx hb dX12_months_46 (lv_at hl 4 rfl) ?_
                refine lv_aload_n hx hb dX12_months_48 rfl (lv_at hl 0 rfl) ?_
                refine gtX12_147 hx hb hts hown hK hW cz12 dX12_months_49 ?_
                refine lv_icmp_ge (tgt := 127) hx hb dX12_months_52 (by decide) (fun c15 => ?_) (fun c15 => ?_)
                · have h := sh_t c15 h
                  obtain ⟨v16, ev16⟩ : ∃ y : Int32, y = i6 + (1 : Int32) := ⟨_, rfl⟩
                  have h := nm_a ev16 h
                  refine lv_iinc (v := v16) (lv' := [(3, .int v16), (0, .ref (ad 12 0)), (1, .int x1), (2, .int i12), (4, .int i13)]) hx hb dX12_months_127 hl (k := 3) rfl (by rw [ev16]; rfl) (by decide) rfl (fun ls hl => ?_)
                  refine lv_goto (tgt := 28) hx hb dX12_months_130 (by decide) ?_
                  exact ih4 i12 v16 M14 _ _ _ hW hS (lv_sub hl [1, 2, 3, 0] rfl) h
                · have h := sh_f c15 h
                  refine lv_aload_n hx hb dX12_months_55 rfl (lv_at hl 0 rfl) ?_
                  refine gtX12_7 hx hb hts hown hK hW cz12 dX12_months_56 ?_
                  refine lv_iload hx hb dX12_months_59 (lv_at hl 4 rfl) ?_
                  obtain ⟨hj, h⟩ := ix_a h
                  refine al50 hx hb hK hW cz50 hj dX12_months_61 ?_
                  refine lv_iconst (v := (5 : Int32)) hx hb dX12_months_62 (by decide) ?_
                  refine lv_icmp_ne (tgt := 121) hx hb dX12_months_63 (by decide) (fun c17 => ?_) (fun c17 => ?_)
                  · have h := sh_f c17 h
                    obtain ⟨v18, ev18⟩ : ∃ y : Int32, y = i13 + (1 : Int32) := ⟨_, rfl⟩
                    have h := nm_a ev18 h
                    refine lv_iinc (v := v18) (lv' := [(4, .int v18), (0, .ref (ad 12 0)), (1, .int x1), (2, .int i12), (3, .int i6)]) hx hb dX12_months_121 hl (k := 4) rfl (by rw [ev18]; rfl) (by decide) rfl (fun ls hl => ?_)
                    refine lv_goto (tgt := 46) hx hb dX12_months_124 (by decide) ?_
                    exact ih11 i12 v18 M14 _ _ _ hW hS (lv_sub hl [1, 2, 3, 4, 0] rfl) h
                  · have h := sh_t c17 h
                    refine lv_aload_n hx hb dX12_months_66 rfl (lv_at hl 0 rfl) ?_
                    refine gtX12_31 hx hb hts hown hK hW cz12 dX12_months_67 ?_
                    refine lv_iload hx hb dX12_months_70 (lv_at hl 4 rfl) ?_
                    obtain ⟨hj, h⟩ := ix_a h
                    refine al57 hx hb hK hW cz57 hj dX12_months_72 ?_
                    refine lv_if_le (tgt := 79) hx hb dX12_months_73 (by decide) (fun c19 => ?_) (fun c19 => ?_)
                    · have h := sh_t c19 h
                      refine lv_aload_n hx hb dX12_months_79 rfl (lv_at hl 0 rfl) ?_
                      obtain ⟨u20, M21, hcu20, h⟩ := bE_a h
                      refine tb_cVV hZk hx hb hml hown hts hK hZ hW hS [] (mX12_findStanding (l := l) hZk M14 u20 M21 hcu20) pmX12_findStanding tw1439 (Wd.recv hK hW (t := 12) (by decide) cz12 (C := RX12) (T := TX12) (N := 58) rfl) ⟨Nat.le_of_ble_eq_true rfl, Nat.le_of_ble_eq_true rfl⟩ rfl hl.1 (Nat.le_of_ble_eq_true rfl) ⟨Nat.le_refl _, Nat.le_refl _⟩ rfl dX12_months_80 (fun H locs hW hS => ?_)
                      refine lv_aload_n hx hb dX12_months_83 rfl (lv_at hl 0 rfl) ?_
                      refine lv_iload hx hb dX12_months_84 (lv_at hl 4 rfl) ?_
                      obtain ⟨b22, hcb22, h⟩ := bd_a h
                      refine tb_cVZ hZk hx hb hml hown hts hK hZ hW hS [.int i13] (mX12_isStill (l := l) hZk i13 M21 b22 hcb22) pmX12_isStill tw1443 (Wd.recv hK hW (t := 12) (by decide) cz12 (C := RX12) (T := TX12) (N := 58) rfl) ⟨Nat.le_of_ble_eq_true rfl, Nat.le_of_ble_eq_true rfl⟩ rfl hl.1 (Nat.le_of_ble_eq_true rfl) ⟨Nat.le_refl _, Nat.le_refl _⟩ rfl dX12_months_86 (fun H locs hW hS hzz => ?_)
                      have hzb22 := hzz
                      refine lv_if_eq (tgt := 121) hx hb dX12_months_89 (by decide) (fun c23 => ?_) (fun c23 => ?_)
                      · have h := sh_t c23 h
                        obtain ⟨v24, ev24⟩ : ∃ y : Int32, y = i13 + (1 : Int32) := ⟨_, rfl⟩
                        have h := nm_a ev24 h
                        refine lv_iinc (v := v24) (lv' := [(4, .int v24), (0, .ref (ad 12 0)), (1, .int x1), (2, .int i12), (3, .int i6)]) hx hb dX12_months_121 hl (k := 4) rfl (by rw [ev24]; rfl) (by decide) rfl (fun ls hl => ?_)
                        refine lv_goto (tgt := 46) hx hb dX12_months_124 (by decide) ?_
                        exact ih11 i12 v24 M21 _ _ _ hW hS (lv_sub hl [1, 2, 3, 4, 0] rfl) h
                      · have h := sh_f c23 h
                        refine lv_aload_n hx hb dX12_months_92 rfl (lv_at hl 0 rfl) ?_
                        refine lv_iload hx hb dX12_months_93 (lv_at hl 4 rfl) ?_
                        refine lv_iconst (v := (0 : Int32)) hx hb dX12_months_95 (by decide) ?_
                        refine tb_cVI hZk hx hb hml hown hts hK hZ hW hS [.int i13, .int (0 : Int32)] (mX12_drawFor (l := l) hZk i13 (0 : Int32) M21 (fX12_drawFor i13 (0 : Int32) M21) rfl) pmX12_drawFor tw1636 (Wd.recv hK hW (t := 12) (by decide) cz12 (C := RX12) (T := TX12) (N := 58) rfl) ⟨Nat.le_of_ble_eq_true rfl, Nat.le_of_ble_eq_true rfl⟩ rfl hl.1 (Nat.le_of_ble_eq_true rfl) ⟨Nat.le_refl _, Nat.le_refl _⟩ rfl dX12_months_96 (fun H locs hW hS => ?_)
                        refine lv_aload_n hx hb dX12_months_99 rfl (lv_at hl 0 rfl) ?_
                        refine lv_iload hx hb dX12_months_100 (lv_at hl 4 rfl) ?_
                        refine lv_iconst (v := (0 : Int32)) hx hb dX12_months_102 (by decide) ?_
                        obtain ⟨b25, M26, hcb25, h⟩ := bE_a h
                        refine tb_cVI hZk hx hb hml hown hts hK hZ hW hS [.int i13, .int (0 : Int32)] (mX12_oddsOf (l := l) hZk i13 (0 : Int32) M21 b25 M26 hcb25) pmX12_oddsOf tw1617 (Wd.recv hK hW (t := 12) (by decide) cz12 (C := RX12) (T := TX12) (N := 58) rfl) ⟨Nat.le_of_ble_eq_true rfl, Nat.le_of_ble_eq_true rfl⟩ rfl hl.1 (Nat.le_of_ble_eq_true rfl) ⟨Nat.le_refl _, Nat.le_refl _⟩ rfl dX12_months_103 (fun H locs hW hS => ?_)
                        refine lv_icmp_lt (tgt := 112) hx hb dX12_months_106 (by decide) (fun c27 => ?_) (fun c27 => ?_)
                        · have h := sh_t c27 h
                          refine lv_aload_n hx hb dX12_months_112 rfl (lv_at hl 0 rfl) ?_
                          refine lv_iload hx hb dX12_months_113 (lv_at hl 4 rfl) ?_
                          obtain ⟨u28, M29, hcu28, h⟩ := bE_a h
                          refine tb_cVV hZk hx hb hml hown hts hK hZ hW hS [.int i13] (mX12_hears (l := l) hZk i13 M26 u28 M29 hcu28) pmX12_hears tw1643 (Wd.recv hK hW (t := 12) (by decide) cz12 (C := RX12) (T := TX12) (N := 58) rfl) ⟨Nat.le_of_ble_eq_true rfl, Nat.le_of_ble_eq_true rfl⟩ rfl hl.1 (Nat.le_of_ble_eq_true rfl) ⟨Nat.le_refl _, Nat.le_refl _⟩ rfl dX12_months_115 (fun H locs hW hS => ?_)
                          obtain ⟨v30, ev30⟩ : ∃ y : Int32, y = i12 + (1 : Int32) := ⟨_, rfl⟩
                          have h := nm_a ev30 h
                          refine lv_iinc (v := v30) (lv' := [(2, .int v30), (0, .ref (ad 12 0)), (1, .int x1), (3, .int i6), (4, .int i13)]) hx hb dX12_months_118 hl (k := 2) rfl (by rw [ev30]; rfl) (by decide) rfl (fun ls hl => ?_)
                          obtain ⟨v31, ev31⟩ : ∃ y : Int32, y = i13 + (1 : Int32) := ⟨_, rfl⟩
                          have h := nm_a ev31 h
                          refine lv_iinc (v := v31) (lv' := [(4, .int v31), (2, .int v30), (0, .ref (ad 12 0)), (1, .int x1), (3, .int i6)]) hx hb dX12_months_121 hl (k := 4) rfl (by rw [ev31]; rfl) (by decide) rfl (fun ls hl => ?_)
                          refine lv_goto (tgt := 46) hx hb dX12_months_124 (by decide) ?_
                          exact ih11 v30 v31 M29 _ _ _ hW hS (lv_sub hl [2, 3, 1, 4, 0] rfl) h
                        · have h := sh_f c27 h
                          refine lv_goto (tgt := 121) hx hb dX12_months_109 (by decide) ?_
                          obtain ⟨v32, ev32⟩ : ∃ y : Int32, y = i13 + (1 : Int32) := ⟨_, rfl⟩
                          have h := nm_a ev32 h
                          refine lv_iinc (v := v32) (lv' := [(4, .int v32), (0, .ref (ad 12 0)), (1, .int x1), (2, .int i12), (3, .int i6)]) hx hb dX12_months_121 hl (k := 4) rfl (by rw [ev32]; rfl) (by decide) rfl (fun ls hl => ?_)
                          refine lv_goto (tgt := 46) hx hb dX12_months_124 (by decide) ?_
                          exact ih11 i12 v32 M26 _ _ _ hW hS (lv_sub hl [1, 2, 3, 4, 0] rfl) h
                    · have h := sh_f c19 h
                      refine lv_goto (tgt := 121) hx hb dX12_months_76 (by decide) ?_
                      obtain ⟨v33, ev33⟩ : ∃ y : Int32, y = i13 + (1 : Int32) := ⟨_, rfl⟩
                      have h := nm_a ev33 h
                      refine lv_iinc (v := v33) (lv' := [(4, .int v33), (0, .ref (ad 12 0)), (1, .int x1), (2, .int i12), (3, .int i6)]) hx hb dX12_months_121 hl (k := 4) rfl (by rw [ev33]; rfl) (by decide) rfl (fun ls hl => ?_)
                      refine lv_goto (tgt := 46) hx hb dX12_months_124 (by decide) ?_
                      exact ih11 i12 v33 M14 _ _ _ hW hS (lv_sub hl [1, 2, 3, 4, 0] rfl) h
            exact L11 FU i5 (0 : Int32) M10 _ _ _ hW hS (lv_sub hl [1, 2, 3, 4, 0] rfl) h
      exact L4 FU (0 : Int32) (0 : Int32) M0 _ _ _ hW hS (lv_sub hl [2, 3, 1, 0] rfl) h
    · have h := sh_f c3 h
      refine lv_iconst (v := (-1 : Int32)) hx hb dX12_months_22 (by decide) ?_
      exact tb_iretE h hx hb hr hS hW hlk dX12_months_23
def fX12_seed (x1 : Int32) (M0 : Mem) : Option (Int32 × Mem) :=
  nm (mgI M0 1245 0 0) fun v1 => nm (msI M0 1245 0 0 x1) fun M2 => some (v1, M2)
set_option maxHeartbeats 4000000 in
set_option maxRecDepth 100000 in
theorem mX12_seed {l : Launch} {D : va_G} {cy : Nat → ClassId} {A : Nat → Prop} {Z : State → Heap → Prop} {ad : Nat → Nat → Nat} (hZk : ZOK A Z) (x1 : Int32) (M0 : Mem) (r : Int32) (M' : Mem) (h : fX12_seed x1 M0 = some (r, M')) : Met l yX12_seed (wt yX12_seed cX12_seed 3 (some .int)) (rm 0 0) (CPre D cy A Z cnM ad M0 [.ref (ad 12 0), .int x1]) (QI D cy A cnM ad r M') 0 0 A := by
  refine tb_start [.ref (ad 12 0), .int x1] [(0, .ref (ad 12 0)), (1, .int x1)] RX12 rfl (by decide +kernel) (Nat.le_of_ble_eq_true rfl) rfl (fun p e s m args below meth c hx hb hr hml hown hts hlk hW hK hZ ls hl => ?_)
  have hS : va_S A s.heap s.heap [] := va_S.rf
  unfold fX12_seed at h
  refine lv_aload_n hx hb dX12_seed_0 rfl (lv_at hl 0 rfl) ?_
  refine gtX12_329 hx hb hts hown hK hW cz12 dX12_seed_1 ?_
  refine lv_topi (fun v1 ev1 => ?_)
  have h := nm_a ev1 h
  refine lv_istore_n (lv' := [(2, .int v1), (0, .ref (ad 12 0)), (1, .int x1)]) hx hb dX12_seed_4 rfl hl (by decide) rfl (fun ls hl => ?_)
  refine lv_aload_n hx hb dX12_seed_5 rfl (lv_at hl 1 rfl) ?_
  refine lv_iload_n hx hb dX12_seed_6 rfl (lv_at hl 2 rfl) ?_
  refine ptX12_329 hx hb hts hown hK hW hS cz12 dX12_seed_7 (fun H locs hW hS => ?_)
  obtain ⟨M2, eM2⟩ : ∃ y, y = msI M0 1245 0 0 x1 := ⟨_, rfl⟩
  have h := nm_a eM2 h
  rw [← eM2] at hW
  refine lv_iload_n hx hb dX12_seed_10 rfl (lv_at hl 0 rfl) ?_
  exact tb_iretE h hx hb hr hS hW hlk dX12_seed_11
def fX12_letter (x1 : Int32) (M0 : Mem) : Option (Int32 × Mem) :=
  nm (fX12_isStone x1 M0) fun b1 => if b1 = 0 then (some ((-1 : Int32), M0)) else (ix x1 64 <| if (mgI M0 5000 0 x1.toNatClampNeg) = (5 : Int32) then (ix x1 64 <| nm (mgI M0 5800 0 x1.toNatClampNeg) fun v4 => ix x1 64 <| nm (msI M0 5800 0 x1.toNatClampNeg (vp_nar .boolean (1 : Int32))) fun M5 => if v4 = 0 then (some ((1 : Int32), M5)) else (some ((0 : Int32), M5))) else (some ((-1 : Int32), M0)))
set_option maxHeartbeats 4000000 in
set_option maxRecDepth 100000 in
theorem mX12_letter {l : Launch} {D : va_G} {cy : Nat → ClassId} {A : Nat → Prop} {Z : State → Heap → Prop} {ad : Nat → Nat → Nat} (hZk : ZOK A Z) (x1 : Int32) (M0 : Mem) (r : Int32) (M' : Mem) (h : fX12_letter x1 M0 = some (r, M')) : Met l yX12_letter (wt yX12_letter cX12_letter 3 (some .int)) (rm 2 43) (CPre D cy A Z cnM ad M0 [.ref (ad 12 0), .int x1]) (QI D cy A cnM ad r M') 0 0 A := by
  refine tb_start [.ref (ad 12 0), .int x1] [(0, .ref (ad 12 0)), (1, .int x1)] RX12 rfl (by decide +kernel) (Nat.le_of_ble_eq_true rfl) rfl (fun p e s m args below meth c hx hb hr hml hown hts hlk hW hK hZ ls hl => ?_)
  have hS : va_S A s.heap s.heap [] := va_S.rf
  unfold fX12_letter at h
  refine lv_aload_n hx hb dX12_letter_0 rfl (lv_at hl 0 rfl) ?_
  refine lv_iload_n hx hb dX12_letter_1 rfl (lv_at hl 1 rfl) ?_
  refine tb_cVZ hZk hx hb hml hown hts hK hZ hW hS [.int x1] (mX12_isStone (l := l) hZk x1 M0 (fX12_isStone x1 M0) rfl) pmX12_isStone tw1415 (Wd.recv hK hW (t := 12) (by decide) cz12 (C := RX12) (T := TX12) (N := 58) rfl) ⟨Nat.le_of_ble_eq_true rfl, Nat.le_of_ble_eq_true rfl⟩ rfl hl.1 (Nat.le_of_ble_eq_true rfl) ⟨Nat.le_refl _, Nat.le_refl _⟩ rfl dX12_letter_2 (fun H locs hW hS hzz => ?_)
  refine lv_topi (fun b1 eb1 => ?_)
  have h := nm_a eb1 h
  have hzb1 : b1 = 0 ∨ b1 = 1 := by rw [eb1]; exact hzz
  refine lv_if_eq (tgt := 18) hx hb dX12_letter_5 (by decide) (fun c2 => ?_) (fun c2 => ?_)
  · have h := sh_t c2 h
    refine lv_iconst (v := (-1 : Int32)) hx hb dX12_letter_18 (by decide) ?_
    exact tb_iretE h hx hb hr hS hW hlk dX12_letter_19
  · have h := sh_f c2 h
    refine lv_aload_n hx hb dX12_letter_8 rfl (lv_at hl 0 rfl) ?_
    refine gtX12_7 hx hb hts hown hK hW cz12 dX12_letter_9 ?_
    refine lv_iload_n hx hb dX12_letter_12 rfl (lv_at hl 1 rfl) ?_
    obtain ⟨hj, h⟩ := ix_a h
    refine al50 hx hb hK hW cz50 hj dX12_letter_13 ?_
    refine lv_iconst (v := (5 : Int32)) hx hb dX12_letter_14 (by decide) ?_
    refine lv_icmp_eq (tgt := 20) hx hb dX12_letter_15 (by decide) (fun c3 => ?_) (fun c3 => ?_)
    · have h := sh_t c3 h
      refine lv_aload_n hx hb dX12_letter_20 rfl (lv_at hl 0 rfl) ?_
      refine gtX12_34 hx hb hts hown hK hW cz12 dX12_letter_21 ?_
      refine lv_iload_n hx hb dX12_letter_24 rfl (lv_at hl 1 rfl) ?_
      obtain ⟨hj, h⟩ := ix_a h
      refine al58 hx hb hK hW cz58 hj dX12_letter_25 ?_
      refine lv_topi (fun v4 ev4 => ?_)
      have h := nm_a ev4 h
      refine lv_istore_n (lv' := [(2, .int v4), (0, .ref (ad 12 0)), (1, .int x1)]) hx hb dX12_letter_26 rfl hl (by decide) rfl (fun ls hl => ?_)
      refine lv_aload_n hx hb dX12_letter_27 rfl (lv_at hl 1 rfl) ?_
      refine gtX12_34 hx hb hts hown hK hW cz12 dX12_letter_28 ?_
      refine lv_iload_n hx hb dX12_letter_31 rfl (lv_at hl 2 rfl) ?_
      refine lv_iconst (v := (1 : Int32)) hx hb dX12_letter_32 (by decide) ?_
      obtain ⟨hj, h⟩ := ix_a h
      refine as58 hx hb hK hW hS cz58 hj dX12_letter_33 (fun H locs hW hS => ?_)
      obtain ⟨M5, eM5⟩ : ∃ y, y = msI M0 5800 0 x1.toNatClampNeg (vp_nar .boolean (1 : Int32)) := ⟨_, rfl⟩
      have h := nm_a eM5 h
      rw [← eM5] at hW
      refine lv_iload_n hx hb dX12_letter_34 rfl (lv_at hl 0 rfl) ?_
      refine lv_if_eq (tgt := 42) hx hb dX12_letter_35 (by decide) (fun c6 => ?_) (fun c6 => ?_)
      · have h := sh_t c6 h
        refine lv_iconst (v := (1 : Int32)) hx hb dX12_letter_42 (by decide) ?_
        exact tb_iretE h hx hb hr hS hW hlk dX12_letter_43
      · have h := sh_f c6 h
        refine lv_iconst (v := (0 : Int32)) hx hb dX12_letter_38 (by decide) ?_
        refine lv_goto (tgt := 43) hx hb dX12_letter_39 (by decide) ?_
        exact tb_iretE h hx hb hr hS hW hlk dX12_letter_43
    · have h := sh_f c3 h
      refine lv_iconst (v := (-1 : Int32)) hx hb dX12_letter_18 (by decide) ?_
      exact tb_iretE h hx hb hr hS hW hlk dX12_letter_19
def fX12_copy (x1 : Int32) (x2 : Int32) (M0 : Mem) : Option (Int32 × Mem) :=
  nm (fX12_isStone x1 M0) fun b1 => if b1 = 0 then (some ((-1 : Int32), M0)) else (nm (fX12_in x2 (0 : Int32) (999 : Int32)) fun b3 => if b3 = 0 then (some ((-1 : Int32), M0)) else (if (mgI M0 1246 0 0) = (60 : Int32) then (some ((-3 : Int32), M0)) else (ix (mgI M0 1246 0 0) 60 <| nm (msI M0 8400 0 ((mgI M0 1246 0 0).toNatClampNeg) x1) fun M6 => ix (mgI M6 1246 0 0) 60 <| nm (msI M6 8500 0 ((mgI M6 1246 0 0).toNatClampNeg) x2) fun M7 => ix (mgI M7 1246 0 0) 60 <| nm (msI M7 8600 0 ((mgI M7 1246 0 0).toNatClampNeg) (-1 : Int32)) fun M8 => nm ((mgI M8 1246 0 0) + (1 : Int32)) fun v9 => nm (msI M8 1246 0 0 v9) fun M10 => some ((mgI M10 1246 0 0) - (1 : Int32), M10))))
set_option maxHeartbeats 4000000 in
set_option maxRecDepth 100000 in
theorem mX12_copy {l : Launch} {D : va_G} {cy : Nat → ClassId} {A : Nat → Prop} {Z : State → Heap → Prop} {ad : Nat → Nat → Nat} (hZk : ZOK A Z) (x1 : Int32) (x2 : Int32) (M0 : Mem) (r : Int32) (M' : Mem) (h : fX12_copy x1 x2 M0 = some (r, M')) : Met l yX12_copy (wt yX12_copy cX12_copy 3 (some .int)) (rm 2 43) (CPre D cy A Z cnM ad M0 [.ref (ad 12 0), .int x1, .int x2]) (QI D cy A cnM ad r M') 0 0 A := by
  refine tb_start [.ref (ad 12 0), .int x1, .int x2] [(0, .ref (ad 12 0)), (1, .int x1), (2, .int x2)] RX12 rfl (by decide +kernel) (Nat.le_of_ble_eq_true rfl) rfl (fun p e s m args below meth c hx hb hr hml hown hts hlk hW hK hZ ls hl => ?_)
  have hS : va_S A s.heap s.heap [] := va_S.rf
  unfold fX12_copy at h
  refine lv_aload_n hx hb dX12_copy_0 rfl (lv_at hl 0 rfl) ?_
  refine lv_iload_n hx hb dX12_copy_1 rfl (lv_at hl 1 rfl) ?_
  refine tb_cVZ hZk hx hb hml hown hts hK hZ hW hS [.int x1] (mX12_isStone (l := l) hZk x1 M0 (fX12_isStone x1 M0) rfl) pmX12_isStone tw1415 (Wd.recv hK hW (t := 12) (by decide) cz12 (C := RX12) (T := TX12) (N := 58) rfl) ⟨Nat.le_of_ble_eq_true rfl, Nat.le_of_ble_eq_true rfl⟩ rfl hl.1 (Nat.le_of_ble_eq_true rfl) ⟨Nat.le_refl _, Nat.le_refl _⟩ rfl dX12_copy_2 (fun H locs hW hS hzz => ?_)
  refine lv_topi (fun b1 eb1 => ?_)
  have h := nm_a eb1 h
  have hzb1 : b1 = 0 ∨ b1 = 1 := by rw [eb1]; exact hzz
  refine lv_if_eq (tgt := 19) hx hb dX12_copy_5 (by decide) (fun c2 => ?_) (fun c2 => ?_)
  · have h := sh_t c2 h
    refine lv_iconst (v := (-1 : Int32)) hx hb dX12_copy_19 (by decide) ?_
    exact tb_iretE h hx hb hr hS hW hlk dX12_copy_20
  · have h := sh_f c2 h
    refine lv_iload_n hx hb dX12_copy_8 rfl (lv_at hl 2 rfl) ?_
    refine lv_iconst (v := (0 : Int32)) hx hb dX12_copy_9 (by decide) ?_
    refine lv_sipush (v := (999 : Int32)) hx hb dX12_copy_10 (by decide) ?_
    refine tb_cSZ hZk hx hb hml hown hts hK hZ hW hS [.int x2, .int (0 : Int32), .int (999 : Int32)] (mX12_in (l := l) hZk x2 (0 : Int32) (999 : Int32) M0 (fX12_in x2 (0 : Int32) (999 : Int32)) rfl) pmX12_in tw1401 ⟨Nat.le_of_ble_eq_true rfl, Nat.le_of_ble_eq_true rfl⟩ rfl hl.1 (Nat.le_of_ble_eq_true rfl) ⟨Nat.le_refl _, Nat.le_refl _⟩ rfl dX12_copy_13 (fun H locs hW hS hzz => ?_)
    refine lv_topi (fun b3 eb3 => ?_)
    have h := nm_a eb3 h
    have hzb3 : b3 = 0 ∨ b3 = 1 := by rw [eb3]; exact hzz
    refine lv_if_ne (tgt := 21) hx hb dX12_copy_16 (by decide) (fun c4 => ?_) (fun c4 => ?_)
    · have h := sh_f c4 h
      refine lv_aload_n hx hb dX12_copy_21 rfl (lv_at hl 0 rfl) ?_
      refine gtX12_319 hx hb hts hown hK hW cz12 dX12_copy_22 ?_
      refine lv_bipush (v := (60 : Int32)) hx hb dX12_copy_25 (by decide) ?_
      refine lv_icmp_ne (tgt := 33) hx hb dX12_copy_27 (by decide) (fun c5 => ?_) (fun c5 => ?_)
      · have h := sh_f c5 h
        refine lv_aload_n hx hb dX12_copy_33 rfl (lv_at hl 0 rfl) ?_
        refine gtX12_116 hx hb hts hown hK hW cz12 dX12_copy_34 ?_
        refine lv_aload_n hx hb dX12_copy_37 rfl (lv_at hl 0 rfl) ?_
        refine gtX12_319 hx hb hts hown hK hW cz12 dX12_copy_38 ?_
        refine lv_iload_n hx hb dX12_copy_41 rfl (lv_at hl 1 rfl) ?_
        obtain ⟨hj, h⟩ := ix_a h
        refine as84 hx hb hK hW hS cz84 hj dX12_copy_42 (fun H locs hW hS => ?_)
        obtain ⟨M6, eM6⟩ : ∃ y, y = msI M0 8400 0 ((mgI M0 1246 0 0).toNatClampNeg) x1 := ⟨_, rfl⟩
        have h := nm_a eM6 h
        rw [← eM6] at hW
        refine lv_aload_n hx hb dX12_copy_43 rfl (lv_at hl 0 rfl) ?_
        refine gtX12_119 hx hb hts hown hK hW cz12 dX12_copy_44 ?_
        refine lv_aload_n hx hb dX12_copy_47 rfl (lv_at hl 0 rfl) ?_
        refine gtX12_319 hx hb hts hown hK hW cz12 dX12_copy_48 ?_
        refine lv_iload_n hx hb dX12_copy_51 rfl (lv_at hl 2 rfl) ?_
        obtain ⟨hj, h⟩ := ix_a h
        refine as85 hx hb hK hW hS cz85 hj dX12_copy_52 (fun H locs hW hS => ?_)
        obtain ⟨M7, eM7⟩ : ∃ y, y = msI M6 8500 0 ((mgI M6 1246 0 0).toNatClampNeg) x2 := ⟨_, rfl⟩
        have h := nm_a eM7 h
        rw [← eM7] at hW
        refine lv_aload_n hx hb dX12_copy_53 rfl (lv_at hl 0 rfl) ?_
        refine gtX12_122 hx hb hts hown hK hW cz12 dX12_copy_54 ?_
        refine lv_aload_n hx hb dX12_copy_57 rfl (lv_at hl 0 rfl) ?_
        refine gtX12_319 hx hb hts hown hK hW cz12 dX12_copy_58 ?_
        refine lv_iconst (v := (-1 : Int32)) hx hb dX12_copy_61 (by decide) ?_
        obtain ⟨hj, h⟩ := ix_a h
        refine as86 hx hb hK hW hS cz86 hj dX12_copy_62 (fun H locs hW hS => ?_)
        obtain ⟨M8, eM8⟩ : ∃ y, y = msI M7 8600 0 ((mgI M7 1246 0 0).toNatClampNeg) (-1 : Int32) := ⟨_, rfl⟩
        have h := nm_a eM8 h
        rw [← eM8] at hW
        refine lv_aload_n hx hb dX12_copy_63 rfl (lv_at hl 0 rfl) ?_
        refine lv_dup hx hb dX12_copy_64 rfl ?_
        refine gtX12_319 hx hb hts hown hK hW cz12 dX12_copy_65 ?_
        refine lv_iconst (v := (1 : Int32)) hx hb dX12_copy_68 (by decide) ?_
        refine lv_iadd hx hb dX12_copy_69 ?_
        refine lv_topi (fun v9 ev9 => ?_)
        have h := nm_a ev9 h
        refine ptX12_319 hx hb hts hown hK hW hS cz12 dX12_copy_70 (fun H locs hW hS => ?_)
        obtain ⟨M10, eM10⟩ : ∃ y, y = msI M8 1246 0 0 v9 := ⟨_, rfl⟩
        have h := nm_a eM10 h
        rw [← eM10] at hW
        refine lv_aload_n hx hb dX12_copy_73 rfl (lv_at hl 0 rfl) ?_
        refine gtX12_319 hx hb hts hown hK hW cz12 dX12_copy_74 ?_
        refine lv_iconst (v := (1 : Int32)) hx hb dX12_copy_77 (by decide) ?_
        refine lv_isub hx hb dX12_copy_78 ?_
        exact tb_iretE h hx hb hr hS hW hlk dX12_copy_79
      · have h := sh_t c5 h
        refine lv_bipush (v := (-3 : Int32)) hx hb dX12_copy_30 (by decide) ?_
        exact tb_iretE h hx hb hr hS hW hlk dX12_copy_32
    · have h := sh_t c4 h
      refine lv_iconst (v := (-1 : Int32)) hx hb dX12_copy_19 (by decide) ?_
      exact tb_iretE h hx hb hr hS hW hlk dX12_copy_20
def fX12_mark (x1 : Int32) (x2 : Int32) (M0 : Mem) : Option (Int32 × Mem) :=
  nm (fX12_in x1 (0 : Int32) ((mgI M0 1246 0 0) - (1 : Int32))) fun b1 => if b1 = 0 then (some ((-2000000000 : Int32), M0)) else (nm (fX12_in x2 (0 : Int32) (1 : Int32)) fun b3 => if b3 = 0 then (some ((-2000000000 : Int32), M0)) else (if x2 = (1 : Int32) then (bE (fX12_changes (2 : Int32) x1 (mgI M0 1201 0 0) M0) fun b8 M9 => some (b8, M9)) else (bE (fX12_changes (2 : Int32) x1 (-1 : Int32) M0) fun b6 M7 => some (b6, M7))))
set_option maxHeartbeats 4000000 in
set_option maxRecDepth 100000 in
theorem mX12_mark {l : Launch} {D : va_G} {cy : Nat → ClassId} {A : Nat → Prop} {Z : State → Heap → Prop} {ad : Nat → Nat → Nat} (hZk : ZOK A Z) (x1 : Int32) (x2 : Int32) (M0 : Mem) (r : Int32) (M' : Mem) (h : fX12_mark x1 x2 M0 = some (r, M')) : Met l yX12_mark (wt yX12_mark cX12_mark 3 (some .int)) (rm 2 48) (CPre D cy A Z cnM ad M0 [.ref (ad 12 0), .int x1, .int x2]) (QI D cy A cnM ad r M') 0 0 A := by
  refine tb_start [.ref (ad 12 0), .int x1, .int x2] [(0, .ref (ad 12 0)), (1, .int x1), (2, .int x2)] RX12 rfl (by decide +kernel) (Nat.le_of_ble_eq_true rfl) rfl (fun p e s m args below meth c hx hb hr hml hown hts hlk hW hK hZ ls hl => ?_)
  have hS : va_S A s.heap s.heap [] := va_S.rf
  unfold fX12_mark at h
  refine lv_iload_n hx hb dX12_mark_0 rfl (lv_at hl 1 rfl) ?_
  refine lv_iconst (v := (0 : Int32)) hx hb dX12_mark_1 (by decide) ?_
  refine lv_aload_n hx hb dX12_mark_2 rfl (lv_at hl 0 rfl) ?_
  refine gtX12_319 hx hb hts hown hK hW cz12 dX12_mark_3 ?_
  refine lv_iconst (v := (1 : Int32)) hx hb dX12_mark_6 (by decide) ?_
  refine lv_isub hx hb dX12_mark_7 ?_
  refine tb_cSZ hZk hx hb hml hown hts hK hZ hW hS [.int x1, .int (0 : Int32), .int ((mgI M0 1246 0 0) - (1 : Int32))] (mX12_in (l := l) hZk x1 (0 : Int32) ((mgI M0 1246 0 0) - (1 : Int32)) M0 (fX12_in x1 (0 : Int32) ((mgI M0 1246 0 0) - (1 : Int32))) rfl) pmX12_in tw1401 ⟨Nat.le_of_ble_eq_true rfl, Nat.le_of_ble_eq_true rfl⟩ rfl hl.1 (Nat.le_of_ble_eq_true rfl) ⟨Nat.le_refl _, Nat.le_refl _⟩ rfl dX12_mark_8 (fun H locs hW hS hzz => ?_)
  refine lv_topi (fun b1 eb1 => ?_)
  have h := nm_a eb1 h
  have hzb1 : b1 = 0 ∨ b1 = 1 := by rw [eb1]; exact hzz
  refine lv_if_eq (tgt := 45) hx hb dX12_mark_11 (by decide) (fun c2 => ?_) (fun c2 => ?_)
  · have h := sh_t c2 h
    refine lv_ldc hx hb hown (hts _ tw1479) dX12_mark_45 ?_
    exact tb_iretE h hx hb hr hS hW hlk dX12_mark_47
  · have h := sh_f c2 h
    refine lv_iload_n hx hb dX12_mark_14 rfl (lv_at hl 2 rfl) ?_
    refine lv_iconst (v := (0 : Int32)) hx hb dX12_mark_15 (by decide) ?_
    refine lv_iconst (v := (1 : Int32)) hx hb dX12_mark_16 (by decide) ?_
    refine tb_cSZ hZk hx hb hml hown hts hK hZ hW hS [.int x2, .int (0 : Int32), .int (1 : Int32)] (mX12_in (l := l) hZk x2 (0 : Int32) (1 : Int32) M0 (fX12_in x2 (0 : Int32) (1 : Int32)) rfl) pmX12_in tw1401 ⟨Nat.le_of_ble_eq_true rfl, Nat.le_of_ble_eq_true rfl⟩ rfl hl.1 (Nat.le_of_ble_eq_true rfl) ⟨Nat.le_refl _, Nat.le_refl _⟩ rfl dX12_mark_17 (fun H locs hW hS hzz => ?_)
    refine lv_topi (fun b3 eb3 => ?_)
    have h := nm_a eb3 h
    have hzb3 : b3 = 0 ∨ b3 = 1 := by rw [eb3]; exact hzz
    refine lv_if_eq (tgt := 45) hx hb dX12_mark_20 (by decide) (fun c4 => ?_) (fun c4 => ?_)
    · have h := sh_t c4 h
      refine lv_ldc hx hb hown (hts _ tw1479) dX12_mark_45 ?_
      exact tb_iretE h hx hb hr hS hW hlk dX12_mark_47
    · have h := sh_f c4 h
      refine lv_aload_n hx hb dX12_mark_23 rfl (lv_at hl 0 rfl) ?_
      refine lv_iconst (v := (2 : Int32)) hx hb dX12_mark_24 (by decide) ?_
      refine lv_iload_n hx hb dX12_mark_25 rfl (lv_at hl 1 rfl) ?_
      refine lv_iload_n hx hb dX12_mark_26 rfl (lv_at hl 2 rfl) ?_
      refine lv_iconst (v := (1 : Int32)) hx hb dX12_mark_27 (by decide) ?_
      refine lv_icmp_ne (tgt := 38) hx hb dX12_mark_28 (by decide) (fun c5 => ?_) (fun c5 => ?_)
      · have h := sh_f c5 h
        refine lv_iconst (v := (-1 : Int32)) hx hb dX12_mark_38 (by decide) ?_
        obtain ⟨b6, M7, hcb6, h⟩ := bE_a h
        refine tb_cVI hZk hx hb hml hown hts hK hZ hW hS [.int (2 : Int32), .int x1, .int (-1 : Int32)] (mX12_changes (l := l) hZk (2 : Int32) x1 (-1 : Int32) M0 b6 M7 hcb6) pmX12_changes tw1512 (Wd.recv hK hW (t := 12) (by decide) cz12 (C := RX12) (T := TX12) (N := 58) rfl) ⟨Nat.le_of_ble_eq_true rfl, Nat.le_of_ble_eq_true rfl⟩ rfl hl.1 (Nat.le_of_ble_eq_true rfl) ⟨Nat.le_refl _, Nat.le_refl _⟩ rfl dX12_mark_39 (fun H locs hW hS => ?_)
        refine lv_goto (tgt := 47) hx hb dX12_mark_42 (by decide) ?_
        exact tb_iretE h hx hb hr hS hW hlk dX12_mark_47
      · have h := sh_t c5 h
        refine lv_aload_n hx hb dX12_mark_31 rfl (lv_at hl 0 rfl) ?_
        refine gtX12_160 hx hb hts hown hK hW cz12 dX12_mark_32 ?_
        refine lv_goto (tgt := 39) hx hb dX12_mark_35 (by decide) ?_
        obtain ⟨b8, M9, hcb8, h⟩ := bE_a h
        refine tb_cVI hZk hx hb hml hown hts hK hZ hW hS [.int (2 : Int32), .int x1, .int (mgI M0 1201 0 0)] (mX12_changes (l := l) hZk (2 : Int32) x1 (mgI M0 1201 0 0) M0 b8 M9 hcb8) pmX12_changes tw1512 (Wd.recv hK hW (t := 12) (by decide) cz12 (C := RX12) (T := TX12) (N := 58) rfl) ⟨Nat.le_of_ble_eq_true rfl, Nat.le_of_ble_eq_true rfl⟩ rfl hl.1 (Nat.le_of_ble_eq_true rfl) ⟨Nat.le_refl _, Nat.le_refl _⟩ rfl dX12_mark_39 (fun H locs hW hS => ?_)
        refine lv_goto (tgt := 47) hx hb dX12_mark_42 (by decide) ?_
        exact tb_iretE h hx hb hr hS hW hlk dX12_mark_47
def fX12_lacks_b15 (M0 : Mem) (x1 : Int32) (k2 : Int32 → Int32 → Int32 → Option Int32) (i3 : Int32) (i4 : Int32) (i5 : Int32) : Option Int32 :=
  if (mgI M0 1246 0 0) ≤ i5 then (if x1 = (-1 : Int32) then (some i3) else (if x1 = (-2 : Int32) then (some i4) else (some (-1 : Int32)))) else (ix i5 60 <| ix (mgI M0 8400 0 i5.toNatClampNeg) 64 <| if (mgI M0 5400 0 (mgI M0 8400 0 i5.toNatClampNeg).toNatClampNeg) < 0 then (nm (i5 + (1 : Int32)) fun v10 => k2 i3 i4 v10) else (ix i5 60 <| if (mgI M0 8600 0 i5.toNatClampNeg) < 0 then (if i3 = x1 then (some i5) else (nm (i3 + (1 : Int32)) fun v13 => ix i5 60 <| nm (i4 + (mgI M0 8500 0 i5.toNatClampNeg)) fun v14 => nm (i5 + (1 : Int32)) fun v15 => k2 v13 v14 v15)) else (nm (i5 + (1 : Int32)) fun v16 => k2 i3 i4 v16)))
def fX12_lacks_l15 (M0 : Mem) (x1 : Int32) : Nat → Int32 → Int32 → Int32 → Option Int32
  | 0, _, _, _ => none
  | n + 1, i3, i4, i5 => fX12_lacks_b15 M0 x1 (fX12_lacks_l15 M0 x1 n) i3 i4 i5
def fX12_lacks (x1 : Int32) (M0 : Mem) : Option Int32 :=
  if (-2 : Int32) ≤ x1 then (fX12_lacks_l15 M0 x1 FU (0 : Int32) (0 : Int32) (0 : Int32)) else (some (-1 : Int32))
set_option maxHeartbeats 4000000 in
set_option maxRecDepth 100000 in
theorem mX12_lacks {l : Launch} {D : va_G} {cy : Nat → ClassId} {A : Nat → Prop} {Z : State → Heap → Prop} {ad : Nat → Nat → Nat} (hZk : ZOK A Z) (x1 : Int32) (M0 : Mem) (r : Int32) (h : fX12_lacks x1 M0 = some r) : Met l yX12_lacks (wt yX12_lacks cX12_lacks 5 (some .int)) (rm 0 0) (CPre D cy A Z cnM ad M0 [.ref (ad 12 0), .int x1]) (QI D cy A cnM ad r M0) 0 0 A := by
  refine tb_start [.ref (ad 12 0), .int x1] [(0, .ref (ad 12 0)), (1, .int x1)] RX12 rfl (by decide +kernel) (Nat.le_of_ble_eq_true rfl) rfl (fun p e s m args below meth c hx hb hr hml hown hts hlk hW hK hZ ls hl => ?_)
  have hS : va_S A s.heap s.heap [] := va_S.rf
  unfold fX12_lacks at h
  refine lv_iload_n hx hb dX12_lacks_0 rfl (lv_at hl 1 rfl) ?_
  refine lv_bipush (v := (-2 : Int32)) hx hb dX12_lacks_1 (by decide) ?_
  refine lv_icmp_ge (tgt := 8) hx hb dX12_lacks_3 (by decide) (fun c1 => ?_) (fun c1 => ?_)
  · have h := sh_t c1 h
    refine lv_iconst (v := (0 : Int32)) hx hb dX12_lacks_8 (by decide) ?_
    refine lv_istore_n (lv' := [(2, .int (0 : Int32)), (0, .ref (ad 12 0)), (1, .int x1)]) hx hb dX12_lacks_9 rfl hl (by decide) rfl (fun ls hl => ?_)
    refine lv_iconst (v := (0 : Int32)) hx hb dX12_lacks_10 (by decide) ?_
    refine lv_istore_n (lv' := [(3, .int (0 : Int32)), (2, .int (0 : Int32)), (0, .ref (ad 12 0)), (1, .int x1)]) hx hb dX12_lacks_11 rfl hl (by decide) rfl (fun ls hl => ?_)
    refine lv_iconst (v := (0 : Int32)) hx hb dX12_lacks_12 (by decide) ?_
    refine lv_istore (lv' := [(4, .int (0 : Int32)), (3, .int (0 : Int32)), (2, .int (0 : Int32)), (0, .ref (ad 12 0)), (1, .int x1)]) hx hb dX12_lacks_13 hl (by decide) rfl (fun ls hl => ?_)
    have L2 : ∀ (n2 : Nat) (i3 : Int32) (i4 : Int32) (i5 : Int32) (H : Heap) (locs : List Loc) (ls : Array Slot), Wd D cy A cnM ad M0 H → va_S A s.heap H locs → lv_has ls 5 [(0, .ref (ad 12 0)), (1, .int x1), (2, .int i3), (3, .int i4), (4, .int i5)] → fX12_lacks_l15 M0 x1 n2 i3 i4 i5 = some r → W p l e (rm 0 0) s m args below meth c H locs 0 0 (MQ below (QI D cy A cnM ad r M0) args s 0 0 A) (F0 m 15 ls []) := by
      intro n2
      induction n2 with
      | zero => intro i3 i4 i5 H locs ls hW hS hl h; cases h
      | succ n2 ih2 =>
        intro i3 i4 i5 H locs ls hW hS hl h
        unfold fX12_lacks_l15 fX12_lacks_b15 at h
        refine lv_iload hx hb dX12_lacks_15 (lv_at hl 4 rfl) ?_
        refine lv_aload_n hx hb dX12_lacks_17 rfl (lv_at hl 0 rfl) ?_
        refine gtX12_319 hx hb hts hown hK hW cz12 dX12_lacks_18 ?_
        refine lv_icmp_ge (tgt := 79) hx hb dX12_lacks_21 (by decide) (fun c6 => ?_) (fun c6 => ?_)
        · have h := sh_t c6 h
          refine lv_iload_n hx hb dX12_lacks_79 rfl (lv_at hl 1 rfl) ?_
          refine lv_iconst (v := (-1 : Int32)) hx hb dX12_lacks_80 (by decide) ?_
          refine lv_icmp_ne (tgt := 88) hx hb dX12_lacks_81 (by decide) (fun c7 => ?_) (fun c7 => ?_)
          · have h := sh_f c7 h
            refine lv_iload_n hx hb dX12_lacks_88 rfl (lv_at hl 1 rfl) ?_
            refine lv_bipush (v := (-2 : Int32)) hx hb dX12_lacks_89 (by decide) ?_
            refine lv_icmp_ne (tgt := 98) hx hb dX12_lacks_91 (by decide) (fun c8 => ?_) (fun c8 => ?_)
            · have h := sh_f c8 h
              refine lv_iconst (v := (-1 : Int32)) hx hb dX12_lacks_98 (by decide) ?_
              exact tb_iretO h hx hb hr hS hW hlk dX12_lacks_99
            · have h := sh_t c8 h
              refine lv_iload_n hx hb dX12_lacks_94 rfl (lv_at hl 3 rfl) ?_
              refine lv_goto (tgt := 99) hx hb dX12_lacks_95 (by decide) ?_
              exact tb_iretO h hx hb hr hS hW hlk dX12_lacks_99
          · have h := sh_t c7 h
            refine lv_iload_n hx hb dX12_lacks_84 rfl (lv_at hl 2 rfl) ?_
            refine lv_goto (tgt := 99) hx hb dX12_lacks_85 (by decide) ?_
            exact tb_iretO h hx hb hr hS hW hlk dX12_lacks_99
        · have h := sh_f c6 h
          refine lv_aload_n hx hb dX12_lacks_24 rfl (lv_at hl 0 rfl) ?_
          refine gtX12_22 hx hb hts hown hK hW cz12 dX12_lacks_25 ?_
          refine lv_aload_n hx hb dX12_lacks_28 rfl (lv_at hl 0 rfl) ?_
          refine gtX12_116 hx hb hts hown hK hW cz12 dX12_lacks_29 ?_
          refine lv_iload hx hb dX12_lacks_32 (lv_at hl 4 rfl) ?_
          obtain ⟨hj, h⟩ := ix_a h
          refine al84 hx hb hK hW cz84 hj dX12_lacks_34 ?_
          obtain ⟨hj, h⟩ := ix_a h
          refine al54 hx hb hK hW cz54 hj dX12_lacks_35 ?_
          refine lv_if_lt (tgt := 73) hx hb dX12_lacks_36 (by decide) (fun c9 => ?_) (fun c9 => ?_)
          · have h := sh_t c9 h
            obtain ⟨v10, ev10⟩ : ∃ y : Int32, y = i5 + (1 : Int32) := ⟨_, rfl⟩
            have h := nm_a ev10 h
            refine lv_iinc (v := v10) (lv' := [(4, .int v10), (0, .ref (ad 12 0)), (1, .int x1), (2, .int i3), (3, .int i4)]) hx hb dX12_lacks_73 hl (k := 4) rfl (by rw [ev10]; rfl) (by decide) rfl (fun ls hl => ?_)
            refine lv_goto (tgt := 15) hx hb dX12_lacks_76 (by decide) ?_
            exact ih2 i3 i4 v10 _ _ _ hW hS (lv_sub hl [1, 2, 3, 4, 0] rfl) h
          · have h := sh_f c9 h
            refine lv_aload_n hx hb dX12_lacks_39 rfl (lv_at hl 0 rfl) ?_
            refine gtX12_122 hx hb hts hown hK hW cz12 dX12_lacks_40 ?_
            refine lv_iload hx hb dX12_lacks_43 (lv_at hl 4 rfl) ?_
            obtain ⟨hj, h⟩ := ix_a h
            refine al86 hx hb hK hW cz86 hj dX12_lacks_45 ?_
            refine lv_if_lt (tgt := 52) hx hb dX12_lacks_46 (by decide) (fun c11 => ?_) (fun c11 => ?_)
            · have h := sh_t c11 h
              refine lv_iload_n hx hb dX12_lacks_52 rfl (lv_at hl 2 rfl) ?_
              refine lv_iload_n hx hb dX12_lacks_53 rfl (lv_at hl 1 rfl) ?_
              refine lv_icmp_ne (tgt := 60) hx hb dX12_lacks_54 (by decide) (fun c12 => ?_) (fun c12 => ?_)
              · have h := sh_f c12 h
                obtain ⟨v13, ev13⟩ : ∃ y : Int32, y = i3 + (1 : Int32) := ⟨_, rfl⟩
                have h := nm_a ev13 h
                refine lv_iinc (v := v13) (lv' := [(2, .int v13), (0, .ref (ad 12 0)), (1, .int x1), (3, .int i4), (4, .int i5)]) hx hb dX12_lacks_60 hl (k := 2) rfl (by rw [ev13]; rfl) (by decide) rfl (fun ls hl => ?_)
                refine lv_iload_n hx hb dX12_lacks_63 rfl (lv_at hl 3 rfl) ?_
                refine lv_aload_n hx hb dX12_lacks_64 rfl (lv_at hl 1 rfl) ?_
                refine gtX12_119 hx hb hts hown hK hW cz12 dX12_lacks_65 ?_
                refine lv_iload hx hb dX12_lacks_68 (lv_at hl 4 rfl) ?_
                obtain ⟨hj, h⟩ := ix_a h
                refine al85 hx hb hK hW cz85 hj dX12_lacks_70 ?_
                refine lv_iadd hx hb dX12_lacks_71 ?_
                refine lv_topi (fun v14 ev14 => ?_)
                have h := nm_a ev14 h
                refine lv_istore_n (lv' := [(3, .int v14), (2, .int v13), (0, .ref (ad 12 0)), (1, .int x1), (4, .int i5)]) hx hb dX12_lacks_72 rfl hl (by decide) rfl (fun ls hl => ?_)
                obtain ⟨v15, ev15⟩ : ∃ y : Int32, y = i5 + (1 : Int32) := ⟨_, rfl⟩
                have h := nm_a ev15 h
                refine lv_iinc (v := v15) (lv' := [(4, .int v15), (3, .int v14), (2, .int v13), (0, .ref (ad 12 0)), (1, .int x1)]) hx hb dX12_lacks_73 hl (k := 4) rfl (by rw [ev15]; rfl) (by decide) rfl (fun ls hl => ?_)
                refine lv_goto (tgt := 15) hx hb dX12_lacks_76 (by decide) ?_
                exact ih2 v13 v14 v15 _ _ _ hW hS (lv_sub hl [3, 4, 2, 1, 0] rfl) h
              · have h := sh_t c12 h
                refine lv_iload hx hb dX12_lacks_57 (lv_at hl 4 rfl) ?_
                exact tb_iretO h hx hb hr hS hW hlk dX12_lacks_59
            · have h := sh_f c11 h
              refine lv_goto (tgt := 73) hx hb dX12_lacks_49 (by decide) ?_
              obtain ⟨v16, ev16⟩ : ∃ y : Int32, y = i5 + (1 : Int32) := ⟨_, rfl⟩
              have h := nm_a ev16 h
              refine lv_iinc (v := v16) (lv' := [(4, .int v16), (0, .ref (ad 12 0)), (1, .int x1), (2, .int i3), (3, .int i4)]) hx hb dX12_lacks_73 hl (k := 4) rfl (by rw [ev16]; rfl) (by decide) rfl (fun ls hl => ?_)
              refine lv_goto (tgt := 15) hx hb dX12_lacks_76 (by decide) ?_
              exact ih2 i3 i4 v16 _ _ _ hW hS (lv_sub hl [1, 2, 3, 4, 0] rfl) h
    exact L2 FU (0 : Int32) (0 : Int32) (0 : Int32) _ _ _ hW hS (lv_sub hl [3, 4, 2, 1, 0] rfl) h
  · have h := sh_f c1 h
    refine lv_iconst (v := (-1 : Int32)) hx hb dX12_lacks_6 (by decide) ?_
    exact tb_iretO h hx hb hr hS hW hlk dX12_lacks_7
def fX12_tell_b103 (i8 : Int32) (x1 : Int32) (i16 : Int32) (k12 : Int32 → Int32 → Int32 → Int32 → Option (Int32 × Mem)) (i13 : Int32) (i14 : Int32) (i15 : Int32) (M10 : Mem) (k20 : Int32 → Int64 → Int32 → Option (Int32 × Mem)) (i21 : Int32) (j22 : Int64) (i23 : Int32) : Option (Int32 × Mem) :=
  if i8 ≤ i23 then (bd (fX12_bitsOf j22) fun b25 => if x1 < i21 then (nm (i16 + (1 : Int32)) fun v27 => k12 i13 i14 i15 v27) else (if b25 < i14 then (nm (i16 + (1 : Int32)) fun v29 => k12 i13 i14 i15 v29) else (if b25 = i14 then (if i21 < i15 then (nm (i16 + (1 : Int32)) fun v33 => k12 i16 b25 i21 v33) else (nm (i16 + (1 : Int32)) fun v34 => k12 i13 i14 i15 v34)) else (nm (i16 + (1 : Int32)) fun v31 => k12 i16 b25 i21 v31)))) else (if ((i16 >>> (i23 &&& 31)) &&& (1 : Int32)) = 0 then (nm (i23 + (1 : Int32)) fun v39 => k20 i21 j22 v39) else (ix i23 10 <| ix (mgI M10 7500 0 i23.toNatClampNeg) 64 <| nm (i21 + (mgI M10 5200 0 (mgI M10 7500 0 i23.toNatClampNeg).toNatClampNeg)) fun v36 => ix i23 10 <| ix (mgI M10 7500 0 i23.toNatClampNeg) 64 <| ix i23 10 <| nm (j22 ||| ((mgL M10 6500 0 (mgI M10 7500 0 i23.toNatClampNeg).toNatClampNeg) ||| ((1 : Int64) <<< ((mgI M10 7500 0 i23.toNatClampNeg).toInt64 &&& 63)))) fun v37 => nm (i23 + (1 : Int32)) fun v38 => k20 v36 v37 v38))
def fX12_tell_l103 (i8 : Int32) (x1 : Int32) (i16 : Int32) (k12 : Int32 → Int32 → Int32 → Int32 → Option (Int32 × Mem)) (i13 : Int32) (i14 : Int32) (i15 : Int32) (M10 : Mem) : Nat → Int32 → Int64 → Int32 → Option (Int32 × Mem)
  | 0, _, _, _ => none
  | n + 1, i21, j22, i23 => fX12_tell_b103 i8 x1 i16 k12 i13 i14 i15 M10 (fX12_tell_l103 i8 x1 i16 k12 i13 i14 i15 M10 n) i21 j22 i23
def fX12_tell_b86 (i8 : Int32) (x2 : Int32) (M10 : Mem) (x1 : Int32) (k12 : Int32 → Int32 → Int32 → Int32 → Option (Int32 × Mem)) (i13 : Int32) (i14 : Int32) (i15 : Int32) (i16 : Int32) : Option (Int32 × Mem) :=
  if ((1 : Int32) <<< (i8 &&& 31)) ≤ i16 then (if x2 = 0 then (some (i14, M10)) else (if x2 = (1 : Int32) then (some (i15, M10)) else (some (i13, M10)))) else (fX12_tell_l103 i8 x1 i16 k12 i13 i14 i15 M10 FU (0 : Int32) (0 : Int64) (0 : Int32))
def fX12_tell_l86 (i8 : Int32) (x2 : Int32) (M10 : Mem) (x1 : Int32) : Nat → Int32 → Int32 → Int32 → Int32 → Option (Int32 × Mem)
  | 0, _, _, _, _ => none
  | n + 1, i13, i14, i15, i16 => fX12_tell_b86 i8 x2 M10 x1 (fX12_tell_l86 i8 x2 M10 x1 n) i13 i14 i15 i16
def fX12_tell_b103_49 (i8 : Int32) (x1 : Int32) (i45 : Int32) (k41 : Int32 → Int32 → Int32 → Int32 → Option (Int32 × Mem)) (i42 : Int32) (i43 : Int32) (i44 : Int32) (M10 : Mem) (k49 : Int32 → Int64 → Int32 → Option (Int32 × Mem)) (i50 : Int32) (j51 : Int64) (i52 : Int32) : Option (Int32 × Mem) :=
  if i8 ≤ i52 then (bd (fX12_bitsOf j51) fun b54 => if x1 < i50 then (nm (i45 + (1 : Int32)) fun v56 => k41 i42 i43 i44 v56) else (if b54 < i43 then (nm (i45 + (1 : Int32)) fun v58 => k41 i42 i43 i44 v58) else (if b54 = i43 then (if i50 < i44 then (nm (i45 + (1 : Int32)) fun v62 => k41 i45 b54 i50 v62) else (nm (i45 + (1 : Int32)) fun v63 => k41 i42 i43 i44 v63)) else (nm (i45 + (1 : Int32)) fun v60 => k41 i45 b54 i50 v60)))) else (if ((i45 >>> (i52 &&& 31)) &&& (1 : Int32)) = 0 then (nm (i52 + (1 : Int32)) fun v68 => k49 i50 j51 v68) else (ix i52 10 <| ix (mgI M10 7500 0 i52.toNatClampNeg) 64 <| nm (i50 + (mgI M10 5200 0 (mgI M10 7500 0 i52.toNatClampNeg).toNatClampNeg)) fun v65 => ix i52 10 <| ix (mgI M10 7500 0 i52.toNatClampNeg) 64 <| ix i52 10 <| nm (j51 ||| ((mgL M10 6500 0 (mgI M10 7500 0 i52.toNatClampNeg).toNatClampNeg) ||| ((1 : Int64) <<< ((mgI M10 7500 0 i52.toNatClampNeg).toInt64 &&& 63)))) fun v66 => nm (i52 + (1 : Int32)) fun v67 => k49 v65 v66 v67))
def fX12_tell_l103_49 (i8 : Int32) (x1 : Int32) (i45 : Int32) (k41 : Int32 → Int32 → Int32 → Int32 → Option (Int32 × Mem)) (i42 : Int32) (i43 : Int32) (i44 : Int32) (M10 : Mem) : Nat → Int32 → Int64 → Int32 → Option (Int32 × Mem)
  | 0, _, _, _ => none
  | n + 1, i50, j51, i52 => fX12_tell_b103_49 i8 x1 i45 k41 i42 i43 i44 M10 (fX12_tell_l103_49 i8 x1 i45 k41 i42 i43 i44 M10 n) i50 j51 i52
def fX12_tell_b86_41 (i8 : Int32) (x2 : Int32) (M10 : Mem) (x1 : Int32) (k41 : Int32 → Int32 → Int32 → Int32 → Option (Int32 × Mem)) (i42 : Int32) (i43 : Int32) (i44 : Int32) (i45 : Int32) : Option (Int32 × Mem) :=
  if ((1 : Int32) <<< (i8 &&& 31)) ≤ i45 then (if x2 = 0 then (some (i43, M10)) else (if x2 = (1 : Int32) then (some (i44, M10)) else (some (i42, M10)))) else (fX12_tell_l103_49 i8 x1 i45 k41 i42 i43 i44 M10 FU (0 : Int32) (0 : Int64) (0 : Int32))
def fX12_tell_l86_41 (i8 : Int32) (x2 : Int32) (M10 : Mem) (x1 : Int32) : Nat → Int32 → Int32 → Int32 → Int32 → Option (Int32 × Mem)
  | 0, _, _, _, _ => none
  | n + 1, i42, i43, i44, i45 => fX12_tell_b86_41 i8 x2 M10 x1 (fX12_tell_l86_41 i8 x2 M10 x1 n) i42 i43 i44 i45
def fX12_tell_b30 (x2 : Int32) (x1 : Int32) (k7 : Int32 → Int32 → Mem → Option (Int32 × Mem)) (i8 : Int32) (i9 : Int32) (M10 : Mem) : Option (Int32 × Mem) :=
  if (mgI M10 1202 0 0) ≤ i9 then (fX12_tell_l86 i8 x2 M10 x1 FU (0 : Int32) (0 : Int32) (0 : Int32) (1 : Int32)) else (if (10 : Int32) ≤ i8 then (fX12_tell_l86_41 i8 x2 M10 x1 FU (0 : Int32) (0 : Int32) (0 : Int32) (1 : Int32)) else (bd (fX12_isStill i9 M10) fun b69 => if b69 = 0 then (nm (i9 + (1 : Int32)) fun v74 => k7 i8 v74 M10) else (ix i8 10 <| nm (msI M10 7500 0 i8.toNatClampNeg i9) fun M71 => nm (i8 + (1 : Int32)) fun v72 => nm (i9 + (1 : Int32)) fun v73 => k7 v72 v73 M71)))
def fX12_tell_l30 (x2 : Int32) (x1 : Int32) : Nat → Int32 → Int32 → Mem → Option (Int32 × Mem)
  | 0, _, _, _ => none
  | n + 1, i8, i9, M10 => fX12_tell_b30 x2 x1 (fX12_tell_l30 x2 x1 n) i8 i9 M10
def fX12_tell (x1 : Int32) (x2 : Int32) (M0 : Mem) : Option (Int32 × Mem) :=
  nm (fX12_in x1 (0 : Int32) (60 : Int32)) fun b1 => if b1 = 0 then (some ((-1 : Int32), M0)) else (nm (fX12_in x2 (0 : Int32) (2 : Int32)) fun b3 => if b3 = 0 then (some ((-1 : Int32), M0)) else (bE (fX12_findStanding M0) fun u5 M6 => fX12_tell_l30 x2 x1 FU (0 : Int32) (0 : Int32) M6))
set_option maxHeartbeats 4000000 in
set_option maxRecDepth 100000 in
theorem mX12_tell {l : Launch} {D : va_G} {cy : Nat → ClassId} {A : Nat → Prop} {Z : State → Heap → Prop} {ad : Nat → Nat → Nat} (hZk : ZOK A Z) (x1 : Int32) (x2 : Int32) (M0 : Mem) (r : Int32) (M' : Mem) (h : fX12_tell x1 x2 M0 = some (r, M')) : Met l yX12_tell (wt yX12_tell cX12_tell 12 (some .int)) (rm 3 66) (CPre D cy A Z cnM ad M0 [.ref (ad 12 0), .int x1, .int x2]) (QI D cy A cnM ad r M') 0 0 A := by
  refine tb_start [.ref (ad 12 0), .int x1, .int x2] [(0, .ref (ad 12 0)), (1, .int x1), (2, .int x2)] RX12 rfl (by decide +kernel) (Nat.le_of_ble_eq_true rfl) rfl (fun p e s m args below meth c hx hb hr hml hown hts hlk hW hK hZ ls hl => ?_)
  have hS : va_S A s.heap s.heap [] := va_S.rf
  unfold fX12_tell at h
  refine lv_iload_n hx hb dX12_tell_0 rfl (lv_at hl 1 rfl) ?_
  refine lv_iconst (v := (0 : Int32)) hx hb dX12_tell_1 (by decide) ?_
  refine lv_bipush (v := (60 : Int32)) hx hb dX12_tell_2 (by decide) ?_
  refine tb_cSZ hZk hx hb hml hown hts hK hZ hW hS [.int x1, .int (0 : Int32), .int (60 : Int32)] (mX12_in (l := l) hZk x1 (0 : Int32) (60 : Int32) M0 (fX12_in x1 (0 : Int32) (60 : Int32)) rfl) pmX12_in tw1401 ⟨Nat.le_of_ble_eq_true rfl, Nat.le_of_ble_eq_true rfl⟩ rfl hl.1 (Nat.le_of_ble_eq_true rfl) ⟨Nat.le_refl _, Nat.le_refl _⟩ rfl dX12_tell_4 (fun H locs hW hS hzz => ?_)
  refine lv_topi (fun b1 eb1 => ?_)
  have h := nm_a eb1 h
  have hzb1 : b1 = 0 ∨ b1 = 1 := by rw [eb1]; exact hzz
  refine lv_if_eq (tgt := 19) hx hb dX12_tell_7 (by decide) (fun c2 => ?_) (fun c2 => ?_)
  · have h := sh_t c2 h
    refine lv_iconst (v := (-1 : Int32)) hx hb dX12_tell_19 (by decide) ?_
    exact tb_iretE h hx hb hr hS hW hlk dX12_tell_20
  · have h := sh_f c2 h
    refine lv_iload_n hx hb dX12_tell_10 rfl (lv_at hl 2 rfl) ?_
    refine lv_iconst (v := (0 : Int32)) hx hb dX12_tell_11 (by decide) ?_
    refine lv_iconst (v := (2 : Int32)) hx hb dX12_tell_12 (by decide) ?_
    refine tb_cSZ hZk hx hb hml hown hts hK hZ hW hS [.int x2, .int (0 : Int32), .int (2 : Int32)] (mX12_in (l := l) hZk x2 (0 : Int32) (2 : Int32) M0 (fX12_in x2 (0 : Int32) (2 : Int32)) rfl) pmX12_in tw1401 ⟨Nat.le_of_ble_eq_true rfl, Nat.le_of_ble_eq_true rfl⟩ rfl hl.1 (Nat.le_of_ble_eq_true rfl) ⟨Nat.le_refl _, Nat.le_refl _⟩ rfl dX12_tell_13 (fun H locs hW hS hzz => ?_)
    refine lv_topi (fun b3 eb3 => ?_)
    have h := nm_a eb3 h
    have hzb3 : b3 = 0 ∨ b3 = 1 := by rw [eb3]; exact hzz
    refine lv_if_ne (tgt := 21) hx hb dX12_tell_16 (by decide) (fun c4 => ?_) (fun c4 => ?_)
    · have h := sh_f c4 h
      refine lv_aload_n hx hb dX12_tell_21 rfl (lv_at hl 0 rfl) ?_
      obtain ⟨u5, M6, hcu5, h⟩ := bE_a h
      refine tb_cVV hZk hx hb hml hown hts hK hZ hW hS [] (mX12_findStanding (l := l) hZk M0 u5 M6 hcu5) pmX12_findStanding tw1439 (Wd.recv hK hW (t := 12) (by decide) cz12 (C := RX12) (T := TX12) (N := 58) rfl) ⟨Nat.le_of_ble_eq_true rfl, Nat.le_of_ble_eq_true rfl⟩ rfl hl.1 (Nat.le_of_ble_eq_true rfl) ⟨Nat.le_refl _, Nat.le_refl _⟩ rfl dX12_tell_22 (fun H locs hW hS => ?_)
      refine lv_iconst (v := (0 : Int32)) hx hb dX12_tell_25 (by decide) ?_
      refine lv_istore_n (lv' := [(3, .int (0 : Int32)), (0, .ref (ad 12 0)), (1, .int x1), (2, .int x2)]) hx hb dX12_tell_26 rfl hl (by decide) rfl (fun ls hl => ?_)
      refine lv_iconst (v := (0 : Int32)) hx hb dX12_tell_27 (by decide) ?_
      refine lv_istore (lv' := [(4, .int (0 : Int32)), (3, .int (0 : Int32)), (0, .ref (ad 12 0)), (1, .int x1), (2, .int x2)]) hx hb dX12_tell_28 hl (by decide) rfl (fun ls hl => ?_)
      have L7 : ∀ (n7 : Nat) (i8 : Int32) (i9 : Int32) (M10 : Mem) (H : Heap) (locs : List Loc) (ls : Array Slot), Wd D cy A cnM ad M10 H → va_S A s.heap H locs → lv_has ls 12 [(0, .ref (ad 12 0)), (1, .int x1), (2, .int x2), (3, .int i8), (4, .int i9)] → fX12_tell_l30 x2 x1 n7 i8 i9 M10 = some (r, M') → W p l e (rm 3 66) s m args below meth c H locs 0 0 (MQ below (QI D cy A cnM ad r M') args s 0 0 A) (F0 m 30 ls []) := by
        intro n7
        induction n7 with
        | zero => intro i8 i9 M10 H locs ls hW hS hl h; cases h
        | succ n7 ih7 =>
          intro i8 i9 M10 H locs ls hW hS hl h
          unfold fX12_tell_l30 fX12_tell_b30 at h
          refine lv_iload hx hb dX12_tell_30 (lv_at hl 4 rfl) ?_
          refine lv_aload_n hx hb dX12_tell_32 rfl (lv_at hl 0 rfl) ?_
          refine gtX12_147 hx hb hts hown hK hW cz12 dX12_tell_33 ?_
          refine lv_icmp_ge (tgt := 74) hx hb dX12_tell_36 (by decide) (fun c11 => ?_) (fun c11 => ?_)
          · have h := sh_t c11 h
            refine lv_iconst (v := (0 : Int32)) hx hb dX12_tell_74 (by decide) ?_
            refine lv_istore (lv' := [(4, .int (0 : Int32)), (0, .ref (ad 12 0)), (1, .int x1), (2, .int x2), (3, .int i8)]) hx hb dX12_tell_75 hl (by decide) rfl (fun ls hl => ?_)
            refine lv_iconst (v := (0 : Int32)) hx hb dX12_tell_77 (by decide) ?_
            refine lv_istore (lv' := [(5, .int (0 : Int32)), (4, .int (0 : Int32)), (0, .ref (ad 12 0)), (1, .int x1), (2, .int x2), (3, .int i8)]) hx hb dX12_tell_78 hl (by decide) rfl (fun ls hl => ?_)
            refine lv_iconst (v := (0 : Int32)) hx hb dX12_tell_80 (by decide) ?_
            refine lv_istore (lv' := [(6, .int (0 : Int32)), (5, .int (0 : Int32)), (4, .int (0 : Int32)), (0, .ref (ad 12 0)), (1, .int x1), (2, .int x2), (3, .int i8)]) hx hb dX12_tell_81 hl (by decide) rfl (fun ls hl => ?_)
            refine lv_iconst (v := (1 : Int32)) hx hb dX12_tell_83 (by decide) ?_
            refine lv_istore (lv' := [(7, .int (1 : Int32)), (6, .int (0 : Int32)), (5, .int (0 : Int32)), (4, .int (0 : Int32)), (0, .ref (ad 12 0)), (1, .int x1), (2, .int x2), (3, .int i8)]) hx hb dX12_tell_84 hl (by decide) rfl (fun ls hl => ?_)
            have L12 : ∀ (n12 : Nat) (i13 : Int32) (i14 : Int32) (i15 : Int32) (i16 : Int32) (H : Heap) (locs : List Loc) (ls : Array Slot), Wd D cy A cnM ad M10 H → va_S A s.heap H locs → lv_has ls 12 [(0, .ref (ad 12 0)), (1, .int x1), (2, .int x2), (3, .int i8), (4, .int i13), (5, .int i14), (6, .int i15), (7, .int i16)] → fX12_tell_l86 i8 x2 M10 x1 n12 i13 i14 i15 i16 = some (r, M') → W p l e (rm 3 66) s m args below meth c H locs 0 0 (MQ below (QI D cy A cnM ad r M') args s 0 0 A) (F0 m 86 ls []) := by
              intro n12
              induction n12 with
              | zero => intro i13 i14 i15 i16 H locs ls hW hS hl h; cases h
              | succ n12 ih12 =>
                intro i13 i14 i15 i16 H locs ls hW hS hl h
                unfold fX12_tell_l86 fX12_tell_b86 at h
                refine lv_iload hx hb dX12_tell_86 (lv_at hl 7 rfl) ?_
                refine lv_iconst (v := (1 : Int32)) hx hb dX12_tell_88 (by decide) ?_
                refine lv_iload_n hx hb dX12_tell_89 rfl (lv_at hl 3 rfl) ?_
                refine lv_ishl hx hb dX12_tell_90 ?_
                refine lv_icmp_ge (tgt := 227) hx hb dX12_tell_91 (by decide) (fun c17 => ?_) (fun c17 => ?_)
                · have h := sh_t c17 h
                  refine lv_iload_n hx hb dX12_tell_227 rfl (lv_at hl 2 rfl) ?_
                  refine lv_if_ne (tgt := 236) hx hb dX12_tell_228 (by decide) (fun c18 => ?_) (fun c18 => ?_)
                  · have h := sh_f c18 h
                    refine lv_iload_n hx hb dX12_tell_236 rfl (lv_at hl 2 rfl) ?_
                    refine lv_iconst (v := (1 : Int32)) hx hb dX12_tell_237 (by decide) ?_
                    refine lv_icmp_ne (tgt := 246) hx hb dX12_tell_238 (by decide) (fun c19 => ?_) (fun c19 => ?_)
                    · have h := sh_f c19 h
                      refine lv_iload hx hb dX12_tell_246 (lv_at hl 4 rfl) ?_
                      exact tb_iretE h hx hb hr hS hW hlk dX12_tell_248
                    · have h := sh_t c19 h
                      refine lv_iload hx hb dX12_tell_241 (lv_at hl 6 rfl) ?_
                      refine lv_goto (tgt := 248) hx hb dX12_tell_243 (by decide) ?_
                      exact tb_iretE h hx hb hr hS hW hlk dX12_tell_248
                  · have h := sh_t c18 h
                    refine lv_iload hx hb dX12_tell_231 (lv_at hl 5 rfl) ?_
                    refine lv_goto (tgt := 248) hx hb dX12_tell_233 (by decide) ?_
                    exact tb_iretE h hx hb hr hS hW hlk dX12_tell_248
                · have h := sh_f c17 h
                  refine lv_iconst (v := (0 : Int32)) hx hb dX12_tell_94 (by decide) ?_
                  refine lv_istore (lv' := [(8, .int (0 : Int32)), (0, .ref (ad 12 0)), (1, .int x1), (2, .int x2), (3, .int i8), (4, .int i13), (5, .int i14), (6, .int i15), (7, .int i16)]) hx hb dX12_tell_95 hl (by decide) rfl (fun ls hl => ?_)
                  refine lv_lconst (v := (0 : Int64)) hx hb dX12_tell_97 (by decide) ?_
                  refine lv_lstore (lv' := [(9, .long (0 : Int64)), (8, .int (0 : Int32)), (0, .ref (ad 12 0)), (1, .int x1), (2, .int x2), (3, .int i8), (4, .int i13), (5, .int i14), (6, .int i15), (7, .int i16)]) hx hb dX12_tell_98 hl (by decide) rfl (fun ls hl => ?_)
                  refine lv_iconst (v := (0 : Int32)) hx hb dX12_tell_100 (by decide) ?_
                  refine lv_istore (lv' := [(11, .int (0 : Int32)), (9, .long (0 : Int64)), (8, .int (0 : Int32)), (0, .ref (ad 12 0)), (1, .int x1), (2, .int x2), (3, .int i8), (4, .int i13), (5, .int i14), (6, .int i15), (7, .int i16)]) hx hb dX12_tell_101 hl (by decide) rfl (fun ls hl => ?_)
                  have L20 : ∀ (n20 : Nat) (i21 : Int32) (j22 : Int64) (i23 : Int32) (H : Heap) (locs : List Loc) (ls : Array Slot), Wd D cy A cnM ad M10 H → va_S A s.heap H locs → lv_has ls 12 [(0, .ref (ad 12 0)), (1, .int x1), (2, .int x2), (3, .int i8), (4, .int i13), (5, .int i14), (6, .int i15), (7, .int i16), (8, .int i21), (9, .long j22), (11, .int i23)] → fX12_tell_l103 i8 x1 i16 (fX12_tell_l86 i8 x2 M10 x1 n12) i13 i14 i15 M10 n20 i21 j22 i23 = some (r, M') → W p l e (rm 3 66) s m args below meth c H locs 0 0 (MQ below (QI D cy A cnM ad r M') args s 0 0 A) (F0 m 103 ls []) := by
                    intro n20
                    induction n20 with
                    | zero => intro i21 j22 i23 H locs ls hW hS hl h; cases h
                    | succ n20 ih20 =>
                      intro i21 j22 i23 H locs ls hW hS hl h
                      unfold fX12_tell_l103 fX12_tell_b103 at h
                      refine lv_iload hx hb dX12_tell_103 (lv_at hl 10 rfl) ?_
                      refine lv_iload_n hx hb dX12_tell_105 rfl (lv_at hl 3 rfl) ?_
                      refine lv_icmp_ge (tgt := 172) hx hb dX12_tell_106 (by decide) (fun c24 => ?_) (fun c24 => ?_)
                      · have h := sh_t c24 h
                        refine lv_lload hx hb dX12_tell_172 (lv_at hl 9 rfl) ?_
                        obtain ⟨b25, hcb25, h⟩ := bd_a h
                        refine tb_cSI hZk hx hb hml hown hts hK hZ hW hS [.long j22] (mX12_bitsOf (l := l) hZk j22 M10 b25 hcb25) pmX12_bitsOf tw1472 ⟨Nat.le_of_ble_eq_true rfl, Nat.le_of_ble_eq_true rfl⟩ rfl hl.1 (Nat.le_of_ble_eq_true rfl) ⟨Nat.le_refl _, Nat.le_refl _⟩ rfl dX12_tell_174 (fun H locs hW hS => ?_)
                        refine lv_istore (lv' := [(11, .int b25), (0, .ref (ad 12 0)), (1, .int x1), (2, .int x2), (3, .int i8), (4, .int i13), (5, .int i14), (6, .int i15), (7, .int i16), (8, .int i21), (9, .long j22)]) hx hb dX12_tell_177 hl (by decide) rfl (fun ls hl => ?_)
                        refine lv_iload hx hb dX12_tell_179 (lv_at hl 9 rfl) ?_
                        refine lv_iload_n hx hb dX12_tell_181 rfl (lv_at hl 2 rfl) ?_
                        refine lv_icmp_gt (tgt := 221) hx hb dX12_tell_182 (by decide) (fun c26 => ?_) (fun c26 => ?_)
                        · have h := sh_t c26 h
                          obtain ⟨v27, ev27⟩ : ∃ y : Int32, y = i16 + (1 : Int32) := ⟨_, rfl⟩
                          have h := nm_a ev27 h
                          refine lv_iinc (v := v27) (lv' := [(7, .int v27), (11, .int b25), (0, .ref (ad 12 0)), (1, .int x1), (2, .int x2), (3, .int i8), (4, .int i13), (5, .int i14), (6, .int i15), (8, .int i21), (9, .long j22)]) hx hb dX12_tell_221 hl (k := 8) rfl (by rw [ev27]; rfl) (by decide) rfl (fun ls hl => ?_)
                          refine lv_goto (tgt := 86) hx hb dX12_tell_224 (by decide) ?_
                          exact ih12 i13 i14 i15 v27 _ _ _ hW hS (lv_sub hl [2, 3, 4, 5, 6, 7, 8, 0] rfl) h
                        · have h := sh_f c26 h
                          refine lv_iload hx hb dX12_tell_185 (lv_at hl 0 rfl) ?_
                          refine lv_iload hx hb dX12_tell_187 (lv_at hl 6 rfl) ?_
                          refine lv_icmp_lt (tgt := 221) hx hb dX12_tell_189 (by decide) (fun c28 => ?_) (fun c28 => ?_)
                          · have h := sh_t c28 h
                            obtain ⟨v29, ev29⟩ : ∃ y : Int32, y = i16 + (1 : Int32) := ⟨_, rfl⟩
                            have h := nm_a ev29 h
                            refine lv_iinc (v := v29) (lv' := [(7, .int v29), (11, .int b25), (0, .ref (ad 12 0)), (1, .int x1), (2, .int x2), (3, .int i8), (4, .int i13), (5, .int i14), (6, .int i15), (8, .int i21), (9, .long j22)]) hx hb dX12_tell_221 hl (k := 8) rfl (by rw [ev29]; rfl) (by decide) rfl (fun ls hl => ?_)
                            refine lv_goto (tgt := 86) hx hb dX12_tell_224 (by decide) ?_
                            exact ih12 i13 i14 i15 v29 _ _ _ hW hS (lv_sub hl [2, 3, 4, 5, 6, 7, 8, 0] rfl) h
                          · have h := sh_f c28 h
                            refine lv_iload hx hb dX12_tell_192 (lv_at hl 0 rfl) ?_
                            refine lv_iload hx hb dX12_tell_194 (lv_at hl 6 rfl) ?_
                            refine lv_icmp_ne (tgt := 209) hx hb dX12_tell_196 (by decide) (fun c30 => ?_) (fun c30 => ?_)
                            · have h := sh_f c30 h
                              refine lv_iload hx hb dX12_tell_209 (lv_at hl 8 rfl) ?_
                              refine lv_istore (lv' := [(4, .int i16), (11, .int b25), (0, .ref (ad 12 0)), (1, .int x1), (2, .int x2), (3, .int i8), (5, .int i14), (6, .int i15), (7, .int i16), (8, .int i21), (9, .long j22)]) hx hb dX12_tell_211 hl (by decide) rfl (fun ls hl => ?_)
                              refine lv_iload hx hb dX12_tell_213 (lv_at hl 1 rfl) ?_
                              refine lv_istore (lv' := [(5, .int b25), (4, .int i16), (11, .int b25), (0, .ref (ad 12 0)), (1, .int x1), (2, .int x2), (3, .int i8), (6, .int i15), (7, .int i16), (8, .int i21), (9, .long j22)]) hx hb dX12_tell_215 hl (by decide) rfl (fun ls hl => ?_)
                              refine lv_iload hx hb dX12_tell_217 (lv_at hl 9 rfl) ?_
                              refine lv_istore (lv' := [(6, .int i21), (5, .int b25), (4, .int i16), (11, .int b25), (0, .ref (ad 12 0)), (1, .int x1), (2, .int x2), (3, .int i8), (7, .int i16), (8, .int i21), (9, .long j22)]) hx hb dX12_tell_219 hl (by decide) rfl (fun ls hl => ?_)
                              obtain ⟨v31, ev31⟩ : ∃ y : Int32, y = i16 + (1 : Int32) := ⟨_, rfl⟩
                              have h := nm_a ev31 h
                              refine lv_iinc (v := v31) (lv' := [(7, .int v31), (6, .int i21), (5, .int b25), (4, .int i16), (11, .int b25), (0, .ref (ad 12 0)), (1, .int x1), (2, .int x2), (3, .int i8), (8, .int i21), (9, .long j22)]) hx hb dX12_tell_221 hl (k := 8) rfl (by rw [ev31]; rfl) (by decide) rfl (fun ls hl => ?_)
                              refine lv_goto (tgt := 86) hx hb dX12_tell_224 (by decide) ?_
                              exact ih12 i16 b25 i21 v31 _ _ _ hW hS (lv_sub hl [5, 6, 7, 8, 3, 2, 1, 0] rfl) h
                            · have h := sh_t c30 h
                              refine lv_iload hx hb dX12_tell_199 (lv_at hl 9 rfl) ?_
                              refine lv_iload hx hb dX12_tell_201 (lv_at hl 7 rfl) ?_
                              refine lv_icmp_lt (tgt := 209) hx hb dX12_tell_203 (by decide) (fun c32 => ?_) (fun c32 => ?_)
                              · have h := sh_t c32 h
                                refine lv_iload hx hb dX12_tell_209 (lv_at hl 8 rfl) ?_
                                refine lv_istore (lv' := [(4, .int i16), (11, .int b25), (0, .ref (ad 12 0)), (1, .int x1), (2, .int x2), (3, .int i8), (5, .int i14), (6, .int i15), (7, .int i16), (8, .int i21), (9, .long j22)]) hx hb dX12_tell_211 hl (by decide) rfl (fun ls hl => ?_)
                                refine lv_iload hx hb dX12_tell_213 (lv_at hl 1 rfl) ?_
                                refine lv_istore (lv' := [(5, .int b25), (4, .int i16), (11, .int b25), (0, .ref (ad 12 0)), (1, .int x1), (2, .int x2), (3, .int i8), (6, .int i15), (7, .int i16), (8, .int i21), (9, .long j22)]) hx hb dX12_tell_215 hl (by decide) rfl (fun ls hl => ?_)
                                refine lv_iload hx hb dX12_tell_217 (lv_at hl 9 rfl) ?_
                                refine lv_istore (lv' := [(6, .int i21), (5, .int b25), (4, .int i16), (11, .int b25), (0, .ref (ad 12 0)), (1, .int x1), (2, .int x2), (3, .int i8), (7, .int i16), (8, .int i21), (9, .long j22)]) hx hb dX12_tell_219 hl (by decide) rfl (fun ls hl => ?_)
                                obtain ⟨v33, ev33⟩ : ∃ y : Int32, y = i16 + (1 : Int32) := ⟨_, rfl⟩
                                have h := nm_a ev33 h
                                refine lv_iinc (v := v33) (lv' := [(7, .int v33), (6, .int i21), (5, .int b25), (4, .int i16), (11, .int b25), (0, .ref (ad 12 0)), (1, .int x1), (2, .int x2), (3, .int i8), (8, .int i21), (9, .long j22)]) hx hb dX12_tell_221 hl (k := 8) rfl (by rw [ev33]; rfl) (by decide) rfl (fun ls hl => ?_)
                                refine lv_goto (tgt := 86) hx hb dX12_tell_224 (by decide) ?_
                                exact ih12 i16 b25 i21 v33 _ _ _ hW hS (lv_sub hl [5, 6, 7, 8, 3, 2, 1, 0] rfl) h
                              · have h := sh_f c32 h
                                refine lv_goto (tgt := 221) hx hb dX12_tell_206 (by decide) ?_
                                obtain ⟨v34, ev34⟩ : ∃ y : Int32, y = i16 + (1 : Int32) := ⟨_, rfl⟩
                                have h := nm_a ev34 h
                                refine lv_iinc (v := v34) (lv' := [(7, .int v34), (11, .int b25), (0, .ref (ad 12 0)), (1, .int x1), (2, .int x2), (3, .int i8), (4, .int i13), (5, .int i14), (6, .int i15), (8, .int i21), (9, .long j22)]) hx hb dX12_tell_221 hl (k := 8) rfl (by rw [ev34]; rfl) (by decide) rfl (fun ls hl => ?_)
                                refine lv_goto (tgt := 86) hx hb dX12_tell_224 (by decide) ?_
                                exact ih12 i13 i14 i15 v34 _ _ _ hW hS (lv_sub hl [2, 3, 4, 5, 6, 7, 8, 0] rfl) h
                      · have h := sh_f c24 h
                        refine lv_iload hx hb dX12_tell_109 (lv_at hl 7 rfl) ?_
                        refine lv_iload hx hb dX12_tell_111 (lv_at hl 10 rfl) ?_
                        refine lv_ishr hx hb dX12_tell_113 ?_
                        refine lv_iconst (v := (1 : Int32)) hx hb dX12_tell_114 (by decide) ?_
                        refine lv_iand hx hb dX12_tell_115 ?_
                        refine lv_if_ne (tgt := 122) hx hb dX12_tell_116 (by decide) (fun c35 => ?_) (fun c35 => ?_)
                        · have h := sh_f c35 h
                          refine lv_iload hx hb dX12_tell_122 (lv_at hl 8 rfl) ?_
                          refine lv_aload_n hx hb dX12_tell_124 rfl (lv_at hl 0 rfl) ?_
                          refine gtX12_16 hx hb hts hown hK hW cz12 dX12_tell_125 ?_
                          refine lv_aload_n hx hb dX12_tell_128 rfl (lv_at hl 0 rfl) ?_
                          refine gtX12_87 hx hb hts hown hK hW cz12 dX12_tell_129 ?_
                          refine lv_iload hx hb dX12_tell_132 (lv_at hl 10 rfl) ?_
                          obtain ⟨hj, h⟩ := ix_a h
                          refine al75 hx hb hK hW cz75 hj dX12_tell_134 ?_
                          obtain ⟨hj, h⟩ := ix_a h
                          refine al52 hx hb hK hW cz52 hj dX12_tell_135 ?_
                          refine lv_iadd hx hb dX12_tell_136 ?_
                          refine lv_topi (fun v36 ev36 => ?_)
                          have h := nm_a ev36 h
                          refine lv_istore (lv' := [(8, .int v36), (0, .ref (ad 12 0)), (1, .int x1), (2, .int x2), (3, .int i8), (4, .int i13), (5, .int i14), (6, .int i15), (7, .int i16), (9, .long j22), (11, .int i23)]) hx hb dX12_tell_137 hl (by decide) rfl (fun ls hl => ?_)
                          refine lv_lload hx hb dX12_tell_139 (lv_at hl 9 rfl) ?_
                          refine lv_aload_n hx hb dX12_tell_141 rfl (lv_at hl 1 rfl) ?_
                          refine gtX12_57 hx hb hts hown hK hW cz12 dX12_tell_142 ?_
                          refine lv_aload_n hx hb dX12_tell_145 rfl (lv_at hl 1 rfl) ?_
                          refine gtX12_87 hx hb hts hown hK hW cz12 dX12_tell_146 ?_
                          refine lv_iload hx hb dX12_tell_149 (lv_at hl 10 rfl) ?_
                          obtain ⟨hj, h⟩ := ix_a h
                          refine al75 hx hb hK hW cz75 hj dX12_tell_151 ?_
                          obtain ⟨hj, h⟩ := ix_a h
                          refine al65 hx hb hK hW cz65 hj dX12_tell_152 ?_
                          refine lv_lconst (v := (1 : Int64)) hx hb dX12_tell_153 (by decide) ?_
                          refine lv_aload_n hx hb dX12_tell_154 rfl (lv_at hl 1 rfl) ?_
                          refine gtX12_87 hx hb hts hown hK hW cz12 dX12_tell_155 ?_
                          refine lv_iload hx hb dX12_tell_158 (lv_at hl 10 rfl) ?_
                          obtain ⟨hj, h⟩ := ix_a h
                          refine al75 hx hb hK hW cz75 hj dX12_tell_160 ?_
                          refine lv_lshl hx hb dX12_tell_161 rfl ?_
                          refine lv_lor hx hb dX12_tell_162 ?_
                          refine lv_lor hx hb dX12_tell_163 ?_
                          refine lv_topl (fun v37 ev37 => ?_)
                          have h := nm_a ev37 h
                          refine lv_lstore (lv' := [(9, .long v37), (8, .int v36), (0, .ref (ad 12 0)), (1, .int x1), (2, .int x2), (3, .int i8), (4, .int i13), (5, .int i14), (6, .int i15), (7, .int i16), (11, .int i23)]) hx hb dX12_tell_164 hl (by decide) rfl (fun ls hl => ?_)
                          obtain ⟨v38, ev38⟩ : ∃ y : Int32, y = i23 + (1 : Int32) := ⟨_, rfl⟩
                          have h := nm_a ev38 h
                          refine lv_iinc (v := v38) (lv' := [(11, .int v38), (9, .long v37), (8, .int v36), (0, .ref (ad 12 0)), (1, .int x1), (2, .int x2), (3, .int i8), (4, .int i13), (5, .int i14), (6, .int i15), (7, .int i16)]) hx hb dX12_tell_166 hl (k := 10) rfl (by rw [ev38]; rfl) (by decide) rfl (fun ls hl => ?_)
                          refine lv_goto (tgt := 103) hx hb dX12_tell_169 (by decide) ?_
                          exact ih20 v36 v37 v38 _ _ _ hW hS (lv_sub hl [3, 4, 5, 6, 7, 8, 9, 10, 2, 1, 0] rfl) h
                        · have h := sh_t c35 h
                          refine lv_goto (tgt := 166) hx hb dX12_tell_119 (by decide) ?_
                          obtain ⟨v39, ev39⟩ : ∃ y : Int32, y = i23 + (1 : Int32) := ⟨_, rfl⟩
                          have h := nm_a ev39 h
                          refine lv_iinc (v := v39) (lv' := [(11, .int v39), (0, .ref (ad 12 0)), (1, .int x1), (2, .int x2), (3, .int i8), (4, .int i13), (5, .int i14), (6, .int i15), (7, .int i16), (8, .int i21), (9, .long j22)]) hx hb dX12_tell_166 hl (k := 10) rfl (by rw [ev39]; rfl) (by decide) rfl (fun ls hl => ?_)
                          refine lv_goto (tgt := 103) hx hb dX12_tell_169 (by decide) ?_
                          exact ih20 i21 j22 v39 _ _ _ hW hS (lv_sub hl [1, 2, 3, 4, 5, 6, 7, 8, 9, 10, 0] rfl) h
                  exact L20 FU (0 : Int32) (0 : Int64) (0 : Int32) _ _ _ hW hS (lv_sub hl [3, 4, 5, 6, 7, 8, 9, 10, 2, 1, 0] rfl) h
            exact L12 FU (0 : Int32) (0 : Int32) (0 : Int32) (1 : Int32) _ _ _ hW hS (lv_sub hl [4, 5, 6, 7, 3, 2, 1, 0] rfl) h
          · have h := sh_f c11 h
            refine lv_iload_n hx hb dX12_tell_39 rfl (lv_at hl 3 rfl) ?_
            refine lv_bipush (v := (10 : Int32)) hx hb dX12_tell_40 (by decide) ?_
            refine lv_icmp_ge (tgt := 74) hx hb dX12_tell_42 (by decide) (fun c40 => ?_) (fun c40 => ?_)
            · have h := sh_t c40 h
              refine lv_iconst (v := (0 : Int32)) hx hb dX12_tell_74 (by decide) ?_
              refine lv_istore (lv' := [(4, .int (0 : Int32)), (0, .ref (ad 12 0)), (1, .int x1), (2, .int x2), (3, .int i8)]) hx hb dX12_tell_75 hl (by decide) rfl (fun ls hl => ?_)
              refine lv_iconst (v := (0 : Int32)) hx hb dX12_tell_77 (by decide) ?_
              refine lv_istore (lv' := [(5, .int (0 : Int32)), (4, .int (0 : Int32)), (0, .ref (ad 12 0)), (1, .int x1), (2, .int x2), (3, .int i8)]) hx hb dX12_tell_78 hl (by decide) rfl (fun ls hl => ?_)
              refine lv_iconst (v := (0 : Int32)) hx hb dX12_tell_80 (by decide) ?_
              refine lv_istore (lv' := [(6, .int (0 : Int32)), (5, .int (0 : Int32)), (4, .int (0 : Int32)), (0, .ref (ad 12 0)), (1, .int x1), (2, .int x2), (3, .int i8)]) hx hb dX12_tell_81 hl (by decide) rfl (fun ls hl => ?_)
              refine lv_iconst (v := (1 : Int32)) hx hb dX12_tell_83 (by decide) ?_
              refine lv_istore (lv' := [(7, .int (1 : Int32)), (6, .int (0 : Int32)), (5, .int (0 : Int32)), (4, .int (0 : Int32)), (0, .ref (ad 12 0)), (1, .int x1), (2, .int x2), (3, .int i8)]) hx hb dX12_tell_84 hl (by decide) rfl (fun ls hl => ?_)
              have L41 : ∀ (n41 : Nat) (i42 : Int32) (i43 : Int32) (i44 : Int32) (i45 : Int32) (H : Heap) (locs : List Loc) (ls : Array Slot), Wd D cy A cnM ad M10 H → va_S A s.heap H locs → lv_has ls 12 [(0, .ref (ad 12 0)), (1, .int x1), (2, .int x2), (3, .int i8), (4, .int i42), (5, .int i43), (6, .int i44), (7, .int i45)] → fX12_tell_l86_41 i8 x2 M10 x1 n41 i42 i43 i44 i45 = some (r, M') → W p l e (rm 3 66) s m args below meth c H locs 0 0 (MQ below (QI D cy A cnM ad r M') args s 0 0 A) (F0 m 86 ls []) := by
                intro n41
                induction n41 with
                | zero => intro i42 i43 i44 i45 H locs ls hW hS hl h; cases h
                | succ n41 ih41 =>
                  intro i42 i43 i44 i45 H locs ls hW hS hl h
                  unfold fX12_tell_l86_41 fX12_tell_b86_41 at h
                  refine lv_iload hx hb dX12_tell_86 (lv_at hl 7 rfl) ?_
                  refine lv_iconst (v := (1 : Int32)) hx hb dX12_tell_88 (by decide) ?_
                  refine lv_iload_n hx hb dX12_tell_89 rfl (lv_at hl 3 rfl) ?_
                  refine lv_ishl hx hb dX12_tell_90 ?_
                  refine lv_icmp_ge (tgt := 227) hx hb dX12_tell_91 (by decide) (fun c46 => ?_) (fun c46 => ?_)
                  · have h := sh_t c46 h
                    refine lv_iload_n hx hb dX12_tell_227 rfl (lv_at hl 2 rfl) ?_
                    refine lv_if_ne (tgt := 236) hx hb dX12_tell_228 (by decide) (fun c47 => ?_) (fun c47 => ?_)
                    · have h := sh_f c47 h
                      refine lv_iload_n hx hb dX12_tell_236 rfl (lv_at hl 2 rfl) ?_
                      refine lv_iconst (v := (1 : Int32)) hx hb dX12_tell_237 (by decide) ?_
                      refine lv_icmp_ne (tgt := 246) hx hb dX12_tell_238 (by decide) (fun c48 => ?_) (fun c48 => ?_)
                      · have h := sh_f c48 h
                        refine lv_iload hx hb dX12_tell_246 (lv_at hl 4 rfl) ?_
                        exact tb_iretE h hx hb hr hS hW hlk dX12_tell_248
                      · have h := sh_t c48 h
                        refine lv_iload hx hb dX12_tell_241 (lv_at hl 6 rfl) ?_
                        refine lv_goto (tgt := 248) hx hb dX12_tell_243 (by decide) ?_
                        exact tb_iretE h hx hb hr hS hW hlk dX12_tell_248
                    · have h := sh_t c47 h
                      refine lv_iload hx hb dX12_tell_231 (lv_at hl 5 rfl) ?_
                      refine lv_goto (tgt := 248) hx hb dX12_tell_233 (by decide) ?_
                      exact tb_iretE h hx hb hr hS hW hlk dX12_tell_248
                  · have h := sh_f c46 h
                    refine lv_iconst (v := (0 : Int32)) hx hb dX12_tell_94 (by decide) ?_
                    refine lv_istore (lv' := [(8, .int (0 : Int32)), (0, .ref (ad 12 0)), (1, .int x1), (2, .int x2), (3, .int i8), (4, .int i42), (5, .int i43), (6, .int i44), (7, .int i45)]) hx hb dX12_tell_95 hl (by decide) rfl (fun ls hl => ?_)
                    refine lv_lconst (v := (0 : Int64)) hx hb dX12_tell_97 (by decide) ?_
                    refine lv_lstore (lv' := [(9, .long (0 : Int64)), (8, .int (0 : Int32)), (0, .ref (ad 12 0)), (1, .int x1), (2, .int x2), (3, .int i8), (4, .int i42), (5, .int i43), (6, .int i44), (7, .int i45)]) hx hb dX12_tell_98 hl (by decide) rfl (fun ls hl => ?_)
                    refine lv_iconst (v := (0 : Int32)) hx hb dX12_tell_100 (by decide) ?_
                    refine lv_istore (lv' := [(11, .int (0 : Int32)), (9, .long (0 : Int64)), (8, .int (0 : Int32)), (0, .ref (ad 12 0)), (1, .int x1), (2, .int x2), (3, .int i8), (4, .int i42), (5, .int i43), (6, .int i44), (7, .int i45)]) hx hb dX12_tell_101 hl (by decide) rfl (fun ls hl => ?_)
                    have L49 : ∀ (n49 : Nat) (i50 : Int32) (j51 : Int64) (i52 : Int32) (H : Heap) (locs : List Loc) (ls : Array Slot), Wd D cy A cnM ad M10 H → va_S A s.heap H locs → lv_has ls 12 [(0, .ref (ad 12 0)), (1, .int x1), (2, .int x2), (3, .int i8), (4, .int i42), (5, .int i43), (6, .int i44), (7, .int i45), (8, .int i50), (9, .long j51), (11, .int i52)] → fX12_tell_l103_49 i8 x1 i45 (fX12_tell_l86_41 i8 x2 M10 x1 n41) i42 i43 i44 M10 n49 i50 j51 i52 = some (r, M') → W p l e (rm 3 66) s m args below meth c H locs 0 0 (MQ below (QI D cy A cnM ad r M') args s 0 0 A) (F0 m 103 ls []) := by
                      intro n49
                      induction n49 with
                      | zero => intro i50 j51 i52 H locs ls hW hS hl h; cases h
                      | succ n49 ih49 =>
                        intro i50 j51 i52 H locs ls hW hS hl h
                        unfold fX12_tell_l103_49 fX12_tell_b103_49 at h
                        refine lv_iload hx hb dX12_tell_103 (lv_at hl 10 rfl) ?_
                        refine lv_iload_n hx hb dX12_tell_105 rfl (lv_at hl 3 rfl) ?_
                        refine lv_icmp_ge (tgt := 172) hx hb dX12_tell_106 (by decide) (fun c53 => ?_) (fun c53 => ?_)
                        · have h := sh_t c53 h
                          refine lv_lload hx hb dX12_tell_172 (lv_at hl 9 rfl) ?_
                          obtain ⟨b54, hcb54, h⟩ := bd_a h
                          refine tb_cSI hZk hx hb hml hown hts hK hZ hW hS [.long j51] (mX12_bitsOf (l := l) hZk j51 M10 b54 hcb54) pmX12_bitsOf tw1472 ⟨Nat.le_of_ble_eq_true rfl, Nat.le_of_ble_eq_true rfl⟩ rfl hl.1 (Nat.le_of_ble_eq_true rfl) ⟨Nat.le_refl _, Nat.le_refl _⟩ rfl dX12_tell_174 (fun H locs hW hS => ?_)
                          refine lv_istore (lv' := [(11, .int b54), (0, .ref (ad 12 0)), (1, .int x1), (2, .int x2), (3, .int i8), (4, .int i42), (5, .int i43), (6, .int i44), (7, .int i45), (8, .int i50), (9, .long j51)]) hx hb dX12_tell_177 hl (by decide) rfl (fun ls hl => ?_)
                          refine lv_iload hx hb dX12_tell_179 (lv_at hl 9 rfl) ?_
                          refine lv_iload_n hx hb dX12_tell_181 rfl (lv_at hl 2 rfl) ?_
                          refine lv_icmp_gt (tgt := 221) hx hb dX12_tell_182 (by decide) (fun c55 => ?_) (fun c55 => ?_)
                          · have h := sh_t c55 h
                            obtain ⟨v56, ev56⟩ : ∃ y : Int32, y = i45 + (1 : Int32) := ⟨_, rfl⟩
                            have h := nm_a ev56 h
                            refine lv_iinc (v := v56) (lv' := [(7, .int v56), (11, .int b54), (0, .ref (ad 12 0)), (1, .int x1), (2, .int x2), (3, .int i8), (4, .int i42), (5, .int i43), (6, .int i44), (8, .int i50), (9, .long j51)]) hx hb dX12_tell_221 hl (k := 8) rfl (by rw [ev56]; rfl) (by decide) rfl (fun ls hl => ?_)
                            refine lv_goto (tgt := 86) hx hb dX12_tell_224 (by decide) ?_
                            exact ih41 i42 i43 i44 v56 _ _ _ hW hS (lv_sub hl [2, 3, 4, 5, 6, 7, 8, 0] rfl) h
                          · have h := sh_f c55 h
                            refine lv_iload hx hb dX12_tell_185 (lv_at hl 0 rfl) ?_
                            refine lv_iload hx hb dX12_tell_187 (lv_at hl 6 rfl) ?_
                            refine lv_icmp_lt (tgt := 221) hx hb dX12_tell_189 (by decide) (fun c57 => ?_) (fun c57 => ?_)
                            · have h := sh_t c57 h
                              obtain ⟨v58, ev58⟩ : ∃ y : Int32, y = i45 + (1 : Int32) := ⟨_, rfl⟩
                              have h := nm_a ev58 h
                              refine lv_iinc (v := v58) (lv' := [(7, .int v58), (11, .int b54), (0, .ref (ad 12 0)), (1, .int x1), (2, .int x2), (3, .int i8), (4, .int i42), (5, .int i43), (6, .int i44), (8, .int i50), (9, .long j51)]) hx hb dX12_tell_221 hl (k := 8) rfl (by rw [ev58]; rfl) (by decide) rfl (fun ls hl => ?_)
                              refine lv_goto (tgt := 86) hx hb dX12_tell_224 (by decide) ?_
                              exact ih41 i42 i43 i44 v58 _ _ _ hW hS (lv_sub hl [2, 3, 4, 5, 6, 7, 8, 0] rfl) h
                            · have h := sh_f c57 h
                              refine lv_iload hx hb dX12_tell_192 (lv_at hl 0 rfl) ?_
                              refine lv_iload hx hb dX12_tell_194 (lv_at hl 6 rfl) ?_
                              refine lv_icmp_ne (tgt := 209) hx hb dX12_tell_196 (by decide) (fun c59 => ?_) (fun c59 => ?_)
                              · have h := sh_f c59 h
                                refine lv_iload hx hb dX12_tell_209 (lv_at hl 8 rfl) ?_
                                refine lv_istore (lv' := [(4, .int i45), (11, .int b54), (0, .ref (ad 12 0)), (1, .int x1), (2, .int x2), (3, .int i8), (5, .int i43), (6, .int i44), (7, .int i45), (8, .int i50), (9, .long j51)]) hx hb dX12_tell_211 hl (by decide) rfl (fun ls hl => ?_)
                                refine lv_iload hx hb dX12_tell_213 (lv_at hl 1 rfl) ?_
                                refine lv_istore (lv' := [(5, .int b54), (4, .int i45), (11, .int b54), (0, .ref (ad 12 0)), (1, .int x1), (2, .int x2), (3, .int i8), (6, .int i44), (7, .int i45), (8, .int i50), (9, .long j51)]) hx hb dX12_tell_215 hl (by decide) rfl (fun ls hl => ?_)
                                refine lv_iload hx hb dX12_tell_217 (lv_at hl 9 rfl) ?_
                                refine lv_istore (lv' := [(6, .int i50), (5, .int b54), (4, .int i45), (11, .int b54), (0, .ref (ad 12 0)), (1, .int x1), (2, .int x2), (3, .int i8), (7, .int i45), (8, .int i50), (9, .long j51)]) hx hb dX12_tell_219 hl (by decide) rfl (fun ls hl => ?_)
                                obtain ⟨v60, ev60⟩ : ∃ y : Int32, y = i45 + (1 : Int32) := ⟨_, rfl⟩
                                have h := nm_a ev60 h
                                refine lv_iinc (v := v60) (lv' := [(7, .int v60), (6, .int i50), (5, .int b54), (4, .int i45), (11, .int b54), (0, .ref (ad 12 0)), (1, .int x1), (2, .int x2), (3, .int i8), (8, .int i50), (9, .long j51)]) hx hb dX12_tell_221 hl (k := 8) rfl (by rw [ev60]; rfl) (by decide) rfl (fun ls hl => ?_)
                                refine lv_goto (tgt := 86) hx hb dX12_tell_224 (by decide) ?_
                                exact ih41 i45 b54 i50 v60 _ _ _ hW hS (lv_sub hl [5, 6, 7, 8, 3, 2, 1, 0] rfl) h
                              · have h := sh_t c59 h
                                refine lv_iload hx hb dX12_tell_199 (lv_at hl 9 rfl) ?_
                                refine lv_iload hx hb dX12_tell_201 (lv_at hl 7 rfl) ?_
                                refine lv_icmp_lt (tgt := 209) hx hb dX12_tell_203 (by decide) (fun c61 => ?_) (fun c61 => ?_)
                                · have h := sh_t c61 h
                                  refine lv_iload hx hb dX12_tell_209 (lv_at hl 8 rfl) ?_
                                  refine lv_istore (lv' := [(4, .int i45), (11, .int b54), (0, .ref (ad 12 0)), (1, .int x1), (2, .int x2), (3, .int i8), (5, .int i43), (6, .int i44), (7, .int i45), (8, .int i50), (9, .long j51)]) hx hb dX12_tell_211 hl (by decide) rfl (fun ls hl => ?_)
                                  refine lv_iload hx hb dX12_tell_213 (lv_at hl 1 rfl) ?_
                                  refine lv_istore (lv' := [(5, .int b54), (4, .int i45), (11, .int b54), (0, .ref (ad 12 0)), (1, .int x1), (2, .int x2), (3, .int i8), (6, .int i44), (7, .int i45), (8, .int i50), (9, .long j51)]) hx hb dX12_tell_215 hl (by decide) rfl (fun ls hl => ?_)
                                  refine lv_iload hx hb dX12_tell_217 (lv_at hl 9 rfl) ?_
                                  refine lv_istore (lv' := [(6, .int i50), (5, .int b54), (4, .int i45), (11, .int b54), (0, .ref (ad 12 0)), (1, .int x1), (2, .int x2), (3, .int i8), (7, .int i45), (8, .int i50), (9, .long j51)]) hx hb dX12_tell_219 hl (by decide) rfl (fun ls hl => ?_)
                                  obtain ⟨v62, ev62⟩ : ∃ y : Int32, y = i45 + (1 : Int32) := ⟨_, rfl⟩
                                  have h := nm_a ev62 h
                                  refine lv_iinc (v := v62) (lv' := [(7, .int v62), (6, .int i50), (5, .int b54), (4, .int i45), (11, .int b54), (0, .ref (ad 12 0)), (1, .int x1), (2, .int x2), (3, .int i8), (8, .int i50), (9, .long j51)]) hx hb dX12_tell_221 hl (k := 8) rfl (by rw [ev62]; rfl) (by decide) rfl (fun ls hl => ?_)
                                  refine lv_goto (tgt := 86) hx hb dX12_tell_224 (by decide) ?_
                                  exact ih41 i45 b54 i50 v62 _ _ _ hW hS (lv_sub hl [5, 6, 7, 8, 3, 2, 1, 0] rfl) h
                                · have h := sh_f c61 h
                                  refine lv_goto (tgt := 221) hx hb dX12_tell_206 (by decide) ?_
                                  obtain ⟨v63, ev63⟩ : ∃ y : Int32, y = i45 + (1 : Int32) := ⟨_, rfl⟩
                                  have h := nm_a ev63 h
                                  refine lv_iinc (v := v63) (lv' := [(7, .int v63), (11, .int b54), (0, .ref (ad 12 0)), (1, .int x1), (2, .int x2), (3, .int i8), (4, .int i42), (5, .int i43), (6, .int i44), (8, .int i50), (9, .long j51)]) hx hb dX12_tell_221 hl (k := 8) rfl (by rw [ev63]; rfl) (by decide) rfl (fun ls hl => ?_)
                                  refine lv_goto (tgt := 86) hx hb dX12_tell_224 (by decide) ?_
                                  exact ih41 i42 i43 i44 v63 _ _ _ hW hS (lv_sub hl [2, 3, 4, 5, 6, 7, 8, 0] rfl) h
                        · have h := sh_f c53 h
                          refine lv_iload hx hb dX12_tell_109 (lv_at hl 7 rfl) ?_
                          refine lv_iload hx hb dX12_tell_111 (lv_at hl 10 rfl) ?_
                          refine lv_ishr hx hb dX12_tell_113 ?_
                          refine lv_iconst (v := (1 : Int32)) hx hb dX12_tell_114 (by decide) ?_
                          refine lv_iand hx hb dX12_tell_115 ?_
                          refine lv_if_ne (tgt := 122) hx hb dX12_tell_116 (by decide) (fun c64 => ?_) (fun c64 => ?_)
                          · have h := sh_f c64 h
                            refine lv_iload hx hb dX12_tell_122 (lv_at hl 8 rfl) ?_
                            refine lv_aload_n hx hb dX12_tell_124 rfl (lv_at hl 0 rfl) ?_
                            refine gtX12_16 hx hb hts hown hK hW cz12 dX12_tell_125 ?_
                            refine lv_aload_n hx hb dX12_tell_128 rfl (lv_at hl 0 rfl) ?_
                            refine gtX12_87 hx hb hts hown hK hW cz12 dX12_tell_129 ?_
                            refine lv_iload hx hb dX12_tell_132 (lv_at hl 10 rfl) ?_
                            obtain ⟨hj, h⟩ := ix_a h
                            refine al75 hx hb hK hW cz75 hj dX12_tell_134 ?_
                            obtain ⟨hj, h⟩ := ix_a h
                            refine al52 hx hb hK hW cz52 hj dX12_tell_135 ?_
                            refine lv_iadd hx hb dX12_tell_136 ?_
                            refine lv_topi (fun v65 ev65 => ?_)
                            have h := nm_a ev65 h
                            refine lv_istore (lv' := [(8, .int v65), (0, .ref (ad 12 0)), (1, .int x1), (2, .int x2), (3, .int i8), (4, .int i42), (5, .int i43), (6, .int i44), (7, .int i45), (9, .long j51), (11, .int i52)]) hx hb dX12_tell_137 hl (by decide) rfl (fun ls hl => ?_)
                            refine lv_lload hx hb dX12_tell_139 (lv_at hl 9 rfl) ?_
                            refine lv_aload_n hx hb dX12_tell_141 rfl (lv_at hl 1 rfl) ?_
                            refine gtX12_57 hx hb hts hown hK hW cz12 dX12_tell_142 ?_
                            refine lv_aload_n hx hb dX12_tell_145 rfl (lv_at hl 1 rfl) ?_
                            refine gtX12_87 hx hb hts hown hK hW cz12 dX12_tell_146 ?_
                            refine lv_iload hx hb dX12_tell_149 (lv_at hl 10 rfl) ?_
                            obtain ⟨hj, h⟩ := ix_a h
                            refine al75 hx hb hK hW cz75 hj dX12_tell_151 ?_
                            obtain ⟨hj, h⟩ := ix_a h
                            refine al65 hx hb hK hW cz65 hj dX12_tell_152 ?_
                            refine lv_lconst (v := (1 : Int64)) hx hb dX12_tell_153 (by decide) ?_
                            refine lv_aload_n hx hb dX12_tell_154 rfl (lv_at hl 1 rfl) ?_
                            refine gtX12_87 hx hb hts hown hK hW cz12 dX12_tell_155 ?_
                            refine lv_iload hx hb dX12_tell_158 (lv_at hl 10 rfl) ?_
                            obtain ⟨hj, h⟩ := ix_a h
                            refine al75 hx hb hK hW cz75 hj dX12_tell_160 ?_
                            refine lv_lshl hx hb dX12_tell_161 rfl ?_
                            refine lv_lor hx hb dX12_tell_162 ?_
                            refine lv_lor hx hb dX12_tell_163 ?_
                            refine lv_topl (fun v66 ev66 => ?_)
                            have h := nm_a ev66 h
                            refine lv_lstore (lv' := [(9, .long v66), (8, .int v65), (0, .ref (ad 12 0)), (1, .int x1), (2, .int x2), (3, .int i8), (4, .int i42), (5, .int i43), (6, .int i44), (7, .int i45), (11, .int i52)]) hx hb dX12_tell_164 hl (by decide) rfl (fun ls hl => ?_)
                            obtain ⟨v67, ev67⟩ : ∃ y : Int32, y = i52 + (1 : Int32) := ⟨_, rfl⟩
                            have h := nm_a ev67 h
                            refine lv_iinc (v := v67) (lv' := [(11, .int v67), (9, .long v66), (8, .int v65), (0, .ref (ad 12 0)), (1, .int x1), (2, .int x2), (3, .int i8), (4, .int i42), (5, .int i43), (6, .int i44), (7, .int i45)]) hx hb dX12_tell_166 hl (k := 10) rfl (by rw [ev67]; rfl) (by decide) rfl (fun ls hl => ?_)
                            refine lv_goto (tgt := 103) hx hb dX12_tell_169 (by decide) ?_
                            exact ih49 v65 v66 v67 _ _ _ hW hS (lv_sub hl [3, 4, 5, 6, 7, 8, 9, 10, 2, 1, 0] rfl) h
                          · have h := sh_t c64 h
                            refine lv_goto (tgt := 166) hx hb dX12_tell_119 (by decide) ?_
                            obtain ⟨v68, ev68⟩ : ∃ y : Int32, y = i52 + (1 : Int32) := ⟨_, rfl⟩
                            have h := nm_a ev68 h
                            refine lv_iinc (v := v68) (lv' := [(11, .int v68), (0, .ref (ad 12 0)), (1, .int x1), (2, .int x2), (3, .int i8), (4, .int i42), (5, .int i43), (6, .int i44), (7, .int i45), (8, .int i50), (9, .long j51)]) hx hb dX12_tell_166 hl (k := 10) rfl (by rw [ev68]; rfl) (by decide) rfl (fun ls hl => ?_)
                            refine lv_goto (tgt := 103) hx hb dX12_tell_169 (by decide) ?_
                            exact ih49 i50 j51 v68 _ _ _ hW hS (lv_sub hl [1, 2, 3, 4, 5, 6, 7, 8, 9, 10, 0] rfl) h
                    exact L49 FU (0 : Int32) (0 : Int64) (0 : Int32) _ _ _ hW hS (lv_sub hl [3, 4, 5, 6, 7, 8, 9, 10, 2, 1, 0] rfl) h
              exact L41 FU (0 : Int32) (0 : Int32) (0 : Int32) (1 : Int32) _ _ _ hW hS (lv_sub hl [4, 5, 6, 7, 3, 2, 1, 0] rfl) h
            · have h := sh_f c40 h
              refine lv_aload_n hx hb dX12_tell_45 rfl (lv_at hl 0 rfl) ?_
              refine lv_iload hx hb dX12_tell_46 (lv_at hl 4 rfl) ?_
              obtain ⟨b69, hcb69, h⟩ := bd_a h
              refine tb_cVZ hZk hx hb hml hown hts hK hZ hW hS [.int i9] (mX12_isStill (l := l) hZk i9 M10 b69 hcb69) pmX12_isStill tw1443 (Wd.recv hK hW (t := 12) (by decide) cz12 (C := RX12) (T := TX12) (N := 58) rfl) ⟨Nat.le_of_ble_eq_true rfl, Nat.le_of_ble_eq_true rfl⟩ rfl hl.1 (Nat.le_of_ble_eq_true rfl) ⟨Nat.le_refl _, Nat.le_refl _⟩ rfl dX12_tell_48 (fun H locs hW hS hzz => ?_)
              have hzb69 := hzz
              refine lv_if_ne (tgt := 57) hx hb dX12_tell_51 (by decide) (fun c70 => ?_) (fun c70 => ?_)
              · have h := sh_f c70 h
                refine lv_aload_n hx hb dX12_tell_57 rfl (lv_at hl 0 rfl) ?_
                refine gtX12_87 hx hb hts hown hK hW cz12 dX12_tell_58 ?_
                refine lv_iload_n hx hb dX12_tell_61 rfl (lv_at hl 3 rfl) ?_
                refine lv_iload hx hb dX12_tell_62 (lv_at hl 4 rfl) ?_
                obtain ⟨hj, h⟩ := ix_a h
                refine as75 hx hb hK hW hS cz75 hj dX12_tell_64 (fun H locs hW hS => ?_)
                obtain ⟨M71, eM71⟩ : ∃ y, y = msI M10 7500 0 i8.toNatClampNeg i9 := ⟨_, rfl⟩
                have h := nm_a eM71 h
                rw [← eM71] at hW
                obtain ⟨v72, ev72⟩ : ∃ y : Int32, y = i8 + (1 : Int32) := ⟨_, rfl⟩
                have h := nm_a ev72 h
                refine lv_iinc (v := v72) (lv' := [(3, .int v72), (0, .ref (ad 12 0)), (1, .int x1), (2, .int x2), (4, .int i9)]) hx hb dX12_tell_65 hl (k := 3) rfl (by rw [ev72]; rfl) (by decide) rfl (fun ls hl => ?_)
                obtain ⟨v73, ev73⟩ : ∃ y : Int32, y = i9 + (1 : Int32) := ⟨_, rfl⟩
                have h := nm_a ev73 h
                refine lv_iinc (v := v73) (lv' := [(4, .int v73), (3, .int v72), (0, .ref (ad 12 0)), (1, .int x1), (2, .int x2)]) hx hb dX12_tell_68 hl (k := 4) rfl (by rw [ev73]; rfl) (by decide) rfl (fun ls hl => ?_)
                refine lv_goto (tgt := 30) hx hb dX12_tell_71 (by decide) ?_
                exact ih7 v72 v73 M71 _ _ _ hW hS (lv_sub hl [2, 3, 4, 1, 0] rfl) h
              · have h := sh_t c70 h
                refine lv_goto (tgt := 68) hx hb dX12_tell_54 (by decide) ?_
                obtain ⟨v74, ev74⟩ : ∃ y : Int32, y = i9 + (1 : Int32) := ⟨_, rfl⟩
                have h := nm_a ev74 h
                refine lv_iinc (v := v74) (lv' := [(4, .int v74), (0, .ref (ad 12 0)), (1, .int x1), (2, .int x2), (3, .int i8)]) hx hb dX12_tell_68 hl (k := 4) rfl (by rw [ev74]; rfl) (by decide) rfl (fun ls hl => ?_)
                refine lv_goto (tgt := 30) hx hb dX12_tell_71 (by decide) ?_
                exact ih7 i8 v74 M10 _ _ _ hW hS (lv_sub hl [1, 2, 3, 4, 0] rfl) h
      exact L7 FU (0 : Int32) (0 : Int32) M6 _ _ _ hW hS (lv_sub hl [2, 3, 4, 1, 0] rfl) h
    · have h := sh_t c4 h
      refine lv_iconst (v := (-1 : Int32)) hx hb dX12_tell_19 (by decide) ?_
      exact tb_iretE h hx hb hr hS hW hlk dX12_tell_20
def fX12_land_b113 (M16 : Mem) (x1 : Int32) (k17 : Int32 → Int32 → Option (Int32 × Mem)) (i18 : Int32) (i19 : Int32) : Option (Int32 × Mem) :=
  if (mgI M16 1202 0 0) ≤ i19 then (some (i18, M16)) else (ix i19 64 <| if (mgI M16 5000 0 i19.toNatClampNeg) = (3 : Int32) then (ix i19 64 <| if ((mgI M16 5300 0 i19.toNatClampNeg) / (100 : Int32)) = x1 then (bd (fX12_takenFirst i19 M16) fun b25 => if b25 < 0 then (nm (i19 + (1 : Int32)) fun v27 => k17 i18 v27) else (ix i19 64 <| bd (fX12_isYes i19 M16) fun b28 => if (mgI M16 7400 0 i19.toNatClampNeg) = b28 then (nm (i19 + (1 : Int32)) fun v38 => k17 i18 v38) else (bd (fX12_takenFirst i19 M16) fun b30 => ix i19 64 <| if b30 ≤ (mgI M16 5100 0 i19.toNatClampNeg) then (ix i19 64 <| nm (mgI M16 5100 0 i19.toNatClampNeg) fun v32 => ix i19 64 <| nm (i18 + (((mgI M16 1201 0 0) - v32) * ((mgI M16 5300 0 i19.toNatClampNeg) - (mgI M16 5300 0 i19.toNatClampNeg) / (100 : Int32) * (100 : Int32)))) fun v33 => nm (i19 + (1 : Int32)) fun v34 => k17 v33 v34) else (bd (fX12_takenFirst i19 M16) fun b35 => ix i19 64 <| nm (i18 + (((mgI M16 1201 0 0) - b35) * ((mgI M16 5300 0 i19.toNatClampNeg) - (mgI M16 5300 0 i19.toNatClampNeg) / (100 : Int32) * (100 : Int32)))) fun v36 => nm (i19 + (1 : Int32)) fun v37 => k17 v36 v37)))) else (nm (i19 + (1 : Int32)) fun v24 => k17 i18 v24)) else (nm (i19 + (1 : Int32)) fun v22 => k17 i18 v22))
def fX12_land_l113 (M16 : Mem) (x1 : Int32) : Nat → Int32 → Int32 → Option (Int32 × Mem)
  | 0, _, _ => none
  | n + 1, i18, i19 => fX12_land_b113 M16 x1 (fX12_land_l113 M16 x1 n) i18 i19
def fX12_land_b73 (j6 : Int64) (x1 : Int32) (k11 : Int32 → Mem → Option (Int32 × Mem)) (i12 : Int32) (M13 : Mem) : Option (Int32 × Mem) :=
  if (mgI M13 1202 0 0) ≤ i12 then (bE (fX12_findCounts j6 (0 : Int64) M13) fun u15 M16 => fX12_land_l113 M16 x1 FU (0 : Int32) (0 : Int32)) else (bd (fX12_isYes i12 M13) fun b39 => ix i12 64 <| nm (msI M13 7400 0 i12.toNatClampNeg (vp_nar .boolean b39)) fun M40 => nm (i12 + (1 : Int32)) fun v41 => k11 v41 M40)
def fX12_land_l73 (j6 : Int64) (x1 : Int32) : Nat → Int32 → Mem → Option (Int32 × Mem)
  | 0, _, _ => none
  | n + 1, i12, M13 => fX12_land_b73 j6 x1 (fX12_land_l73 j6 x1 n) i12 M13
def fX12_land_b21 (M4 : Mem) (x1 : Int32) (k5 : Int64 → Int32 → Option (Int32 × Mem)) (j6 : Int64) (i7 : Int32) : Option (Int32 × Mem) :=
  if (mgI M4 1202 0 0) ≤ i7 then (bE (fX12_findCounts (0 : Int64) (0 : Int64) M4) fun u9 M10 => fX12_land_l73 j6 x1 FU (0 : Int32) M10) else (ix i7 64 <| if (mgI M4 5000 0 i7.toNatClampNeg) = (1 : Int32) then (ix i7 64 <| if (mgI M4 5400 0 i7.toNatClampNeg) < 0 then (nm (i7 + (1 : Int32)) fun v45 => k5 j6 v45) else (nm (j6 ||| ((1 : Int64) <<< (i7.toInt64 &&& 63))) fun v46 => nm (i7 + (1 : Int32)) fun v47 => k5 v46 v47)) else (nm (i7 + (1 : Int32)) fun v43 => k5 j6 v43))
def fX12_land_l21 (M4 : Mem) (x1 : Int32) : Nat → Int64 → Int32 → Option (Int32 × Mem)
  | 0, _, _ => none
  | n + 1, j6, i7 => fX12_land_b21 M4 x1 (fX12_land_l21 M4 x1 n) j6 i7
def fX12_land (x1 : Int32) (M0 : Mem) : Option (Int32 × Mem) :=
  nm (fX12_in x1 (0 : Int32) (7 : Int32)) fun b1 => if b1 = 0 then (some ((-1 : Int32), M0)) else (bE (fX12_findStanding M0) fun u3 M4 => fX12_land_l21 M4 x1 FU (0 : Int64) (0 : Int32))
set_option maxHeartbeats 4000000 in
set_option maxRecDepth 100000 in
theorem mX12_land {l : Launch} {D : va_G} {cy : Nat → ClassId} {A : Nat → Prop} {Z : State → Heap → Prop} {ad : Nat → Nat → Nat} (hZk : ZOK A Z) (x1 : Int32) (M0 : Mem) (r : Int32) (M' : Mem) (h : fX12_land x1 M0 = some (r, M')) : Met l yX12_land (wt yX12_land cX12_land 7 (some .int)) (rm 3 80) (CPre D cy A Z cnM ad M0 [.ref (ad 12 0), .int x1]) (QI D cy A cnM ad r M') 0 0 A := by
  refine tb_start [.ref (ad 12 0), .int x1] [(0, .ref (ad 12 0)), (1, .int x1)] RX12 rfl (by decide +kernel) (Nat.le_of_ble_eq_true rfl) rfl (fun p e s m args below meth c hx hb hr hml hown hts hlk hW hK hZ ls hl => ?_)
  have hS : va_S A s.heap s.heap [] := va_S.rf
  unfold fX12_land at h
  refine lv_iload_n hx hb dX12_land_0 rfl (lv_at hl 1 rfl) ?_
  refine lv_iconst (v := (0 : Int32)) hx hb dX12_land_1 (by decide) ?_
  refine lv_bipush (v := (7 : Int32)) hx hb dX12_land_2 (by decide) ?_
  refine tb_cSZ hZk hx hb hml hown hts hK hZ hW hS [.int x1, .int (0 : Int32), .int (7 : Int32)] (mX12_in (l := l) hZk x1 (0 : Int32) (7 : Int32) M0 (fX12_in x1 (0 : Int32) (7 : Int32)) rfl) pmX12_in tw1401 ⟨Nat.le_of_ble_eq_true rfl, Nat.le_of_ble_eq_true rfl⟩ rfl hl.1 (Nat.le_of_ble_eq_true rfl) ⟨Nat.le_refl _, Nat.le_refl _⟩ rfl dX12_land_4 (fun H locs hW hS hzz => ?_)
  refine lv_topi (fun b1 eb1 => ?_)
  have h := nm_a eb1 h
  have hzb1 : b1 = 0 ∨ b1 = 1 := by rw [eb1]; exact hzz
  refine lv_if_ne (tgt := 12) hx hb dX12_land_7 (by decide) (fun c2 => ?_) (fun c2 => ?_)
  · have h := sh_f c2 h
    refine lv_aload_n hx hb dX12_land_12 rfl (lv_at hl 0 rfl) ?_
    obtain ⟨u3, M4, hcu3, h⟩ := bE_a h
    refine tb_cVV hZk hx hb hml hown hts hK hZ hW hS [] (mX12_findStanding (l := l) hZk M0 u3 M4 hcu3) pmX12_findStanding tw1439 (Wd.recv hK hW (t := 12) (by decide) cz12 (C := RX12) (T := TX12) (N := 58) rfl) ⟨Nat.le_of_ble_eq_true rfl, Nat.le_of_ble_eq_true rfl⟩ rfl hl.1 (Nat.le_of_ble_eq_true rfl) ⟨Nat.le_refl _, Nat.le_refl _⟩ rfl dX12_land_13 (fun H locs hW hS => ?_)
    refine lv_lconst (v := (0 : Int64)) hx hb dX12_land_16 (by decide) ?_
    refine lv_lstore_n (lv' := [(2, .long (0 : Int64)), (0, .ref (ad 12 0)), (1, .int x1)]) hx hb dX12_land_17 rfl hl (by decide) rfl (fun ls hl => ?_)
    refine lv_iconst (v := (0 : Int32)) hx hb dX12_land_18 (by decide) ?_
    refine lv_istore (lv' := [(4, .int (0 : Int32)), (2, .long (0 : Int64)), (0, .ref (ad 12 0)), (1, .int x1)]) hx hb dX12_land_19 hl (by decide) rfl (fun ls hl => ?_)
    have L5 : ∀ (n5 : Nat) (j6 : Int64) (i7 : Int32) (H : Heap) (locs : List Loc) (ls : Array Slot), Wd D cy A cnM ad M4 H → va_S A s.heap H locs → lv_has ls 7 [(0, .ref (ad 12 0)), (1, .int x1), (2, .long j6), (4, .int i7)] → fX12_land_l21 M4 x1 n5 j6 i7 = some (r, M') → W p l e (rm 3 80) s m args below meth c H locs 0 0 (MQ below (QI D cy A cnM ad r M') args s 0 0 A) (F0 m 21 ls []) := by
      intro n5
      induction n5 with
      | zero => intro j6 i7 H locs ls hW hS hl h; cases h
      | succ n5 ih5 =>
        intro j6 i7 H locs ls hW hS hl h
        unfold fX12_land_l21 fX12_land_b21 at h
        refine lv_iload hx hb dX12_land_21 (lv_at hl 3 rfl) ?_
        refine lv_aload_n hx hb dX12_land_23 rfl (lv_at hl 0 rfl) ?_
        refine gtX12_147 hx hb hts hown hK hW cz12 dX12_land_24 ?_
        refine lv_icmp_ge (tgt := 64) hx hb dX12_land_27 (by decide) (fun c8 => ?_) (fun c8 => ?_)
        · have h := sh_t c8 h
          refine lv_aload_n hx hb dX12_land_64 rfl (lv_at hl 0 rfl) ?_
          refine lv_lconst (v := (0 : Int64)) hx hb dX12_land_65 (by decide) ?_
          refine lv_lconst (v := (0 : Int64)) hx hb dX12_land_66 (by decide) ?_
          obtain ⟨u9, M10, hcu9, h⟩ := bE_a h
          refine tb_cVV hZk hx hb hml hown hts hK hZ hW hS [.long (0 : Int64), .long (0 : Int64)] (mX12_findCounts (l := l) hZk (0 : Int64) (0 : Int64) M4 u9 M10 hcu9) pmX12_findCounts tw1455 (Wd.recv hK hW (t := 12) (by decide) cz12 (C := RX12) (T := TX12) (N := 58) rfl) ⟨Nat.le_of_ble_eq_true rfl, Nat.le_of_ble_eq_true rfl⟩ rfl hl.1 (Nat.le_of_ble_eq_true rfl) ⟨Nat.le_refl _, Nat.le_refl _⟩ rfl dX12_land_67 (fun H locs hW hS => ?_)
          refine lv_iconst (v := (0 : Int32)) hx hb dX12_land_70 (by decide) ?_
          refine lv_istore (lv' := [(4, .int (0 : Int32)), (0, .ref (ad 12 0)), (1, .int x1), (2, .long j6)]) hx hb dX12_land_71 hl (by decide) rfl (fun ls hl => ?_)
          have L11 : ∀ (n11 : Nat) (i12 : Int32) (M13 : Mem) (H : Heap) (locs : List Loc) (ls : Array Slot), Wd D cy A cnM ad M13 H → va_S A s.heap H locs → lv_has ls 7 [(0, .ref (ad 12 0)), (1, .int x1), (2, .long j6), (4, .int i12)] → fX12_land_l73 j6 x1 n11 i12 M13 = some (r, M') → W p l e (rm 3 80) s m args below meth c H locs 0 0 (MQ below (QI D cy A cnM ad r M') args s 0 0 A) (F0 m 73 ls []) := by
            intro n11
            induction n11 with
            | zero => intro i12 M13 H locs ls hW hS hl h; cases h
            | succ n11 ih11 =>
              intro i12 M13 H locs ls hW hS hl h
              unfold fX12_land_l73 fX12_land_b73 at h
              refine lv_iload hx hb dX12_land_73 (lv_at hl 3 rfl) ?_
              refine lv_aload_n hx hb dX12_land_75 rfl (lv_at hl 0 rfl) ?_
              refine gtX12_147 hx hb hts hown hK hW cz12 dX12_land_76 ?_
              refine lv_icmp_ge (tgt := 101) hx hb dX12_land_79 (by decide) (fun c14 => ?_) (fun c14 => ?_)
              · have h := sh_t c14 h
                refine lv_aload_n hx hb dX12_land_101 rfl (lv_at hl 0 rfl) ?_
                refine lv_lload_n hx hb dX12_land_102 rfl (lv_at hl 2 rfl) ?_
                refine lv_lconst (v := (0 : Int64)) hx hb dX12_land_103 (by decide) ?_
                obtain ⟨u15, M16, hcu15, h⟩ := bE_a h
                refine tb_cVV hZk hx hb hml hown hts hK hZ hW hS [.long j6, .long (0 : Int64)] (mX12_findCounts (l := l) hZk j6 (0 : Int64) M13 u15 M16 hcu15) pmX12_findCounts tw1455 (Wd.recv hK hW (t := 12) (by decide) cz12 (C := RX12) (T := TX12) (N := 58) rfl) ⟨Nat.le_of_ble_eq_true rfl, Nat.le_of_ble_eq_true rfl⟩ rfl hl.1 (Nat.le_of_ble_eq_true rfl) ⟨Nat.le_refl _, Nat.le_refl _⟩ rfl dX12_land_104 (fun H locs hW hS => ?_)
                refine lv_iconst (v := (0 : Int32)) hx hb dX12_land_107 (by decide) ?_
                refine lv_istore (lv' := [(4, .int (0 : Int32)), (0, .ref (ad 12 0)), (1, .int x1), (2, .long j6)]) hx hb dX12_land_108 hl (by decide) rfl (fun ls hl => ?_)
                refine lv_iconst (v := (0 : Int32)) hx hb dX12_land_110 (by decide) ?_
                refine lv_istore (lv' := [(5, .int (0 : Int32)), (4, .int (0 : Int32)), (0, .ref (ad 12 0)), (1, .int x1), (2, .long j6)]) hx hb dX12_land_111 hl (by decide) rfl (fun ls hl => ?_)
                have L17 : ∀ (n17 : Nat) (i18 : Int32) (i19 : Int32) (H : Heap) (locs : List Loc) (ls : Array Slot), Wd D cy A cnM ad M16 H → va_S A s.heap H locs → lv_has ls 7 [(0, .ref (ad 12 0)), (1, .int x1), (4, .int i18), (5, .int i19)] → fX12_land_l113 M16 x1 n17 i18 i19 = some (r, M') → W p l e (rm 3 80) s m args below meth c H locs 0 0 (MQ below (QI D cy A cnM ad r M') args s 0 0 A) (F0 m 113 ls []) := by
                  intro n17
                  induction n17 with
                  | zero => intro i18 i19 H locs ls hW hS hl h; cases h
                  | succ n17 ih17 =>
                    intro i18 i19 H locs ls hW hS hl h
                    unfold fX12_land_l113 fX12_land_b113 at h
                    refine lv_iload hx hb dX12_land_113 (lv_at hl 3 rfl) ?_
                    refine lv_aload_n hx hb dX12_land_115 rfl (lv_at hl 0 rfl) ?_
                    refine gtX12_147 hx hb hts hown hK hW cz12 dX12_land_116 ?_
                    refine lv_icmp_ge (tgt := 238) hx hb dX12_land_119 (by decide) (fun c20 => ?_) (fun c20 => ?_)
                    · have h := sh_t c20 h
                      refine lv_iload hx hb dX12_land_238 (lv_at hl 2 rfl) ?_
                      exact tb_iretE h hx hb hr hS hW hlk dX12_land_240
                    · have h := sh_f c20 h
                      refine lv_aload_n hx hb dX12_land_122 rfl (lv_at hl 0 rfl) ?_
                      refine gtX12_7 hx hb hts hown hK hW cz12 dX12_land_123 ?_
                      refine lv_iload hx hb dX12_land_126 (lv_at hl 3 rfl) ?_
                      obtain ⟨hj, h⟩ := ix_a h
                      refine al50 hx hb hK hW cz50 hj dX12_land_128 ?_
                      refine lv_iconst (v := (3 : Int32)) hx hb dX12_land_129 (by decide) ?_
                      refine lv_icmp_ne (tgt := 232) hx hb dX12_land_130 (by decide) (fun c21 => ?_) (fun c21 => ?_)
                      · have h := sh_f c21 h
                        obtain ⟨v22, ev22⟩ : ∃ y : Int32, y = i19 + (1 : Int32) := ⟨_, rfl⟩
                        have h := nm_a ev22 h
                        refine lv_iinc (v := v22) (lv' := [(5, .int v22), (0, .ref (ad 12 0)), (1, .int x1), (4, .int i18)]) hx hb dX12_land_232 hl (k := 3) rfl (by rw [ev22]; rfl) (by decide) rfl (fun ls hl => ?_)
                        refine lv_goto (tgt := 113) hx hb dX12_land_235 (by decide) ?_
                        exact ih17 i18 v22 _ _ _ hW hS (lv_sub hl [1, 2, 3, 0] rfl) h
                      · have h := sh_t c21 h
                        refine lv_aload_n hx hb dX12_land_133 rfl (lv_at hl 0 rfl) ?_
                        refine gtX12_19 hx hb hts hown hK hW cz12 dX12_land_134 ?_
                        refine lv_iload hx hb dX12_land_137 (lv_at hl 3 rfl) ?_
                        obtain ⟨hj, h⟩ := ix_a h
                        refine al53 hx hb hK hW cz53 hj dX12_land_139 ?_
                        refine lv_bipush (v := (100 : Int32)) hx hb dX12_land_140 (by decide) ?_
                        refine lv_idiv hx hb dX12_land_142 (by decide) ?_
                        refine lv_iload_n hx hb dX12_land_143 rfl (lv_at hl 1 rfl) ?_
                        refine lv_icmp_ne (tgt := 232) hx hb dX12_land_144 (by decide) (fun c23 => ?_) (fun c23 => ?_)
                        · have h := sh_f c23 h
                          obtain ⟨v24, ev24⟩ : ∃ y : Int32, y = i19 + (1 : Int32) := ⟨_, rfl⟩
                          have h := nm_a ev24 h
                          refine lv_iinc (v := v24) (lv' := [(5, .int v24), (0, .ref (ad 12 0)), (1, .int x1), (4, .int i18)]) hx hb dX12_land_232 hl (k := 3) rfl (by rw [ev24]; rfl) (by decide) rfl (fun ls hl => ?_)
                          refine lv_goto (tgt := 113) hx hb dX12_land_235 (by decide) ?_
                          exact ih17 i18 v24 _ _ _ hW hS (lv_sub hl [1, 2, 3, 0] rfl) h
                        · have h := sh_t c23 h
                          refine lv_aload_n hx hb dX12_land_147 rfl (lv_at hl 0 rfl) ?_
                          refine lv_iload hx hb dX12_land_148 (lv_at hl 3 rfl) ?_
                          obtain ⟨b25, hcb25, h⟩ := bd_a h
                          refine tb_cVI hZk hx hb hml hown hts hK hZ hW hS [.int i19] (mX12_takenFirst (l := l) hZk i19 M16 b25 hcb25) pmX12_takenFirst tw1447 (Wd.recv hK hW (t := 12) (by decide) cz12 (C := RX12) (T := TX12) (N := 58) rfl) ⟨Nat.le_of_ble_eq_true rfl, Nat.le_of_ble_eq_true rfl⟩ rfl hl.1 (Nat.le_of_ble_eq_true rfl) ⟨Nat.le_refl _, Nat.le_refl _⟩ rfl dX12_land_150 (fun H locs hW hS => ?_)
                          refine lv_if_lt (tgt := 232) hx hb dX12_land_153 (by decide) (fun c26 => ?_) (fun c26 => ?_)
                          · have h := sh_t c26 h
                            obtain ⟨v27, ev27⟩ : ∃ y : Int32, y = i19 + (1 : Int32) := ⟨_, rfl⟩
                            have h := nm_a ev27 h
                            refine lv_iinc (v := v27) (lv' := [(5, .int v27), (0, .ref (ad 12 0)), (1, .int x1), (4, .int i18)]) hx hb dX12_land_232 hl (k := 3) rfl (by rw [ev27]; rfl) (by decide) rfl (fun ls hl => ?_)
                            refine lv_goto (tgt := 113) hx hb dX12_land_235 (by decide) ?_
                            exact ih17 i18 v27 _ _ _ hW hS (lv_sub hl [1, 2, 3, 0] rfl) h
                          · have h := sh_f c26 h
                            refine lv_aload_n hx hb dX12_land_156 rfl (lv_at hl 0 rfl) ?_
                            refine gtX12_84 hx hb hts hown hK hW cz12 dX12_land_157 ?_
                            refine lv_iload hx hb dX12_land_160 (lv_at hl 3 rfl) ?_
                            obtain ⟨hj, h⟩ := ix_a h
                            refine al74 hx hb hK hW cz74 hj dX12_land_162 ?_
                            refine lv_aload_n hx hb dX12_land_163 rfl (lv_at hl 0 rfl) ?_
                            refine lv_iload hx hb dX12_land_164 (lv_at hl 3 rfl) ?_
                            obtain ⟨b28, hcb28, h⟩ := bd_a h
                            refine tb_cVZ hZk hx hb hml hown hts hK hZ hW hS [.int i19] (mX12_isYes (l := l) hZk i19 M16 b28 hcb28) pmX12_isYes tw1484 (Wd.recv hK hW (t := 12) (by decide) cz12 (C := RX12) (T := TX12) (N := 58) rfl) ⟨Nat.le_of_ble_eq_true rfl, Nat.le_of_ble_eq_true rfl⟩ rfl hl.1 (Nat.le_of_ble_eq_true rfl) ⟨Nat.le_refl _, Nat.le_refl _⟩ rfl dX12_land_166 (fun H locs hW hS hzz => ?_)
                            have hzb28 := hzz
                            refine lv_icmp_ne (tgt := 175) hx hb dX12_land_169 (by decide) (fun c29 => ?_) (fun c29 => ?_)
                            · have h := sh_f c29 h
                              refine lv_aload_n hx hb dX12_land_175 rfl (lv_at hl 0 rfl) ?_
                              refine lv_iload hx hb dX12_land_176 (lv_at hl 3 rfl) ?_
                              obtain ⟨b30, hcb30, h⟩ := bd_a h
                              refine tb_cVI hZk hx hb hml hown hts hK hZ hW hS [.int i19] (mX12_takenFirst (l := l) hZk i19 M16 b30 hcb30) pmX12_takenFirst tw1447 (Wd.recv hK hW (t := 12) (by decide) cz12 (C := RX12) (T := TX12) (N := 58) rfl) ⟨Nat.le_of_ble_eq_true rfl, Nat.le_of_ble_eq_true rfl⟩ rfl hl.1 (Nat.le_of_ble_eq_true rfl) ⟨Nat.le_refl _, Nat.le_refl _⟩ rfl dX12_land_178 (fun H locs hW hS => ?_)
                              refine lv_aload_n hx hb dX12_land_181 rfl (lv_at hl 0 rfl) ?_
                              refine gtX12_13 hx hb hts hown hK hW cz12 dX12_land_182 ?_
                              refine lv_iload hx hb dX12_land_185 (lv_at hl 3 rfl) ?_
                              obtain ⟨hj, h⟩ := ix_a h
                              refine al51 hx hb hK hW cz51 hj dX12_land_187 ?_
                              refine lv_icmp_le (tgt := 200) hx hb dX12_land_188 (by decide) (fun c31 => ?_) (fun c31 => ?_)
                              · have h := sh_t c31 h
                                refine lv_aload_n hx hb dX12_land_200 rfl (lv_at hl 0 rfl) ?_
                                refine gtX12_13 hx hb hts hown hK hW cz12 dX12_land_201 ?_
                                refine lv_iload hx hb dX12_land_204 (lv_at hl 3 rfl) ?_
                                obtain ⟨hj, h⟩ := ix_a h
                                refine al51 hx hb hK hW cz51 hj dX12_land_206 ?_
                                refine lv_topi (fun v32 ev32 => ?_)
                                have h := nm_a ev32 h
                                refine lv_istore (lv' := [(6, .int v32), (0, .ref (ad 12 0)), (1, .int x1), (4, .int i18), (5, .int i19)]) hx hb dX12_land_207 hl (by decide) rfl (fun ls hl => ?_)
                                refine lv_iload hx hb dX12_land_209 (lv_at hl 3 rfl) ?_
                                refine lv_aload_n hx hb dX12_land_211 rfl (lv_at hl 1 rfl) ?_
                                refine gtX12_160 hx hb hts hown hK hW cz12 dX12_land_212 ?_
                                refine lv_iload hx hb dX12_land_215 (lv_at hl 0 rfl) ?_
                                refine lv_isub hx hb dX12_land_217 ?_
                                refine lv_aload_n hx hb dX12_land_218 rfl (lv_at hl 1 rfl) ?_
                                refine gtX12_19 hx hb hts hown hK hW cz12 dX12_land_219 ?_
                                refine lv_iload hx hb dX12_land_222 (lv_at hl 4 rfl) ?_
                                obtain ⟨hj, h⟩ := ix_a h
                                refine al53 hx hb hK hW cz53 hj dX12_land_224 ?_
                                refine lv_bipush (v := (100 : Int32)) hx hb dX12_land_225 (by decide) ?_
                                refine lv_irem hx hb dX12_land_227 (by decide) ?_
                                refine lv_imul hx hb dX12_land_228 ?_
                                refine lv_iadd hx hb dX12_land_229 ?_
                                refine lv_topi (fun v33 ev33 => ?_)
                                have h := nm_a ev33 h
                                refine lv_istore (lv' := [(4, .int v33), (6, .int v32), (0, .ref (ad 12 0)), (1, .int x1), (5, .int i19)]) hx hb dX12_land_230 hl (by decide) rfl (fun ls hl => ?_)
                                obtain ⟨v34, ev34⟩ : ∃ y : Int32, y = i19 + (1 : Int32) := ⟨_, rfl⟩
                                have h := nm_a ev34 h
                                refine lv_iinc (v := v34) (lv' := [(5, .int v34), (4, .int v33), (6, .int v32), (0, .ref (ad 12 0)), (1, .int x1)]) hx hb dX12_land_232 hl (k := 4) rfl (by rw [ev34]; rfl) (by decide) rfl (fun ls hl => ?_)
                                refine lv_goto (tgt := 113) hx hb dX12_land_235 (by decide) ?_
                                exact ih17 v33 v34 _ _ _ hW hS (lv_sub hl [3, 4, 1, 0] rfl) h
                              · have h := sh_f c31 h
                                refine lv_aload_n hx hb dX12_land_191 rfl (lv_at hl 0 rfl) ?_
                                refine lv_iload hx hb dX12_land_192 (lv_at hl 3 rfl) ?_
                                obtain ⟨b35, hcb35, h⟩ := bd_a h
                                refine tb_cVI hZk hx hb hml hown hts hK hZ hW hS [.int i19] (mX12_takenFirst (l := l) hZk i19 M16 b35 hcb35) pmX12_takenFirst tw1447 (Wd.recv hK hW (t := 12) (by decide) cz12 (C := RX12) (T := TX12) (N := 58) rfl) ⟨Nat.le_of_ble_eq_true rfl, Nat.le_of_ble_eq_true rfl⟩ rfl hl.1 (Nat.le_of_ble_eq_true rfl) ⟨Nat.le_refl _, Nat.le_refl _⟩ rfl dX12_land_194 (fun H locs hW hS => ?_)
                                refine lv_goto (tgt := 207) hx hb dX12_land_197 (by decide) ?_
                                refine lv_istore (lv' := [(6, .int b35), (0, .ref (ad 12 0)), (1, .int x1), (4, .int i18), (5, .int i19)]) hx hb dX12_land_207 hl (by decide) rfl (fun ls hl => ?_)
                                refine lv_iload hx hb dX12_land_209 (lv_at hl 3 rfl) ?_
                                refine lv_aload_n hx hb dX12_land_211 rfl (lv_at hl 1 rfl) ?_
                                refine gtX12_160 hx hb hts hown hK hW cz12 dX12_land_212 ?_
                                refine lv_iload hx hb dX12_land_215 (lv_at hl 0 rfl) ?_
                                refine lv_isub hx hb dX12_land_217 ?_
                                refine lv_aload_n hx hb dX12_land_218 rfl (lv_at hl 1 rfl) ?_
                                refine gtX12_19 hx hb hts hown hK hW cz12 dX12_land_219 ?_
                                refine lv_iload hx hb dX12_land_222 (lv_at hl 4 rfl) ?_
                                obtain ⟨hj, h⟩ := ix_a h
                                refine al53 hx hb hK hW cz53 hj dX12_land_224 ?_
                                refine lv_bipush (v := (100 : Int32)) hx hb dX12_land_225 (by decide) ?_
                                refine lv_irem hx hb dX12_land_227 (by decide) ?_
                                refine lv_imul hx hb dX12_land_228 ?_
                                refine lv_iadd hx hb dX12_land_229 ?_
                                refine lv_topi (fun v36 ev36 => ?_)
                                have h := nm_a ev36 h
                                refine lv_istore (lv' := [(4, .int v36), (6, .int b35), (0, .ref (ad 12 0)), (1, .int x1), (5, .int i19)]) hx hb dX12_land_230 hl (by decide) rfl (fun ls hl => ?_)
                                obtain ⟨v37, ev37⟩ : ∃ y : Int32, y = i19 + (1 : Int32) := ⟨_, rfl⟩
                                have h := nm_a ev37 h
                                refine lv_iinc (v := v37) (lv' := [(5, .int v37), (4, .int v36), (6, .int b35), (0, .ref (ad 12 0)), (1, .int x1)]) hx hb dX12_land_232 hl (k := 4) rfl (by rw [ev37]; rfl) (by decide) rfl (fun ls hl => ?_)
                                refine lv_goto (tgt := 113) hx hb dX12_land_235 (by decide) ?_
                                exact ih17 v36 v37 _ _ _ hW hS (lv_sub hl [3, 4, 1, 0] rfl) h
                            · have h := sh_t c29 h
                              refine lv_goto (tgt := 232) hx hb dX12_land_172 (by decide) ?_
                              obtain ⟨v38, ev38⟩ : ∃ y : Int32, y = i19 + (1 : Int32) := ⟨_, rfl⟩
                              have h := nm_a ev38 h
                              refine lv_iinc (v := v38) (lv' := [(5, .int v38), (0, .ref (ad 12 0)), (1, .int x1), (4, .int i18)]) hx hb dX12_land_232 hl (k := 3) rfl (by rw [ev38]; rfl) (by decide) rfl (fun ls hl => ?_)
                              refine lv_goto (tgt := 113) hx hb dX12_land_235 (by decide) ?_
                              exact ih17 i18 v38 _ _ _ hW hS (lv_sub hl [1, 2, 3, 0] rfl) h
                exact L17 FU (0 : Int32) (0 : Int32) _ _ _ hW hS (lv_sub hl [2, 3, 1, 0] rfl) h
              · have h := sh_f c14 h
                refine lv_aload_n hx hb dX12_land_82 rfl (lv_at hl 0 rfl) ?_
                refine gtX12_84 hx hb hts hown hK hW cz12 dX12_land_83 ?_
                refine lv_iload hx hb dX12_land_86 (lv_at hl 3 rfl) ?_
                refine lv_aload_n hx hb dX12_land_88 rfl (lv_at hl 0 rfl) ?_
                refine lv_iload hx hb dX12_land_89 (lv_at hl 3 rfl) ?_
                obtain ⟨b39, hcb39, h⟩ := bd_a h
                refine tb_cVZ hZk hx hb hml hown hts hK hZ hW hS [.int i12] (mX12_isYes (l := l) hZk i12 M13 b39 hcb39) pmX12_isYes tw1484 (Wd.recv hK hW (t := 12) (by decide) cz12 (C := RX12) (T := TX12) (N := 58) rfl) ⟨Nat.le_of_ble_eq_true rfl, Nat.le_of_ble_eq_true rfl⟩ rfl hl.1 (Nat.le_of_ble_eq_true rfl) ⟨Nat.le_refl _, Nat.le_refl _⟩ rfl dX12_land_91 (fun H locs hW hS hzz => ?_)
                have hzb39 := hzz
                obtain ⟨hj, h⟩ := ix_a h
                refine as74 hx hb hK hW hS cz74 hj dX12_land_94 (fun H locs hW hS => ?_)
                obtain ⟨M40, eM40⟩ : ∃ y, y = msI M13 7400 0 i12.toNatClampNeg (vp_nar .boolean b39) := ⟨_, rfl⟩
                have h := nm_a eM40 h
                rw [← eM40] at hW
                obtain ⟨v41, ev41⟩ : ∃ y : Int32, y = i12 + (1 : Int32) := ⟨_, rfl⟩
                have h := nm_a ev41 h
                refine lv_iinc (v := v41) (lv' := [(4, .int v41), (0, .ref (ad 12 0)), (1, .int x1), (2, .long j6)]) hx hb dX12_land_95 hl (k := 3) rfl (by rw [ev41]; rfl) (by decide) rfl (fun ls hl => ?_)
                refine lv_goto (tgt := 73) hx hb dX12_land_98 (by decide) ?_
                exact ih11 v41 M40 _ _ _ hW hS (lv_sub hl [1, 2, 3, 0] rfl) h
          exact L11 FU (0 : Int32) M10 _ _ _ hW hS (lv_sub hl [1, 2, 3, 0] rfl) h
        · have h := sh_f c8 h
          refine lv_aload_n hx hb dX12_land_30 rfl (lv_at hl 0 rfl) ?_
          refine gtX12_7 hx hb hts hown hK hW cz12 dX12_land_31 ?_
          refine lv_iload hx hb dX12_land_34 (lv_at hl 3 rfl) ?_
          obtain ⟨hj, h⟩ := ix_a h
          refine al50 hx hb hK hW cz50 hj dX12_land_36 ?_
          refine lv_iconst (v := (1 : Int32)) hx hb dX12_land_37 (by decide) ?_
          refine lv_icmp_ne (tgt := 58) hx hb dX12_land_38 (by decide) (fun c42 => ?_) (fun c42 => ?_)
          · have h := sh_f c42 h
            obtain ⟨v43, ev43⟩ : ∃ y : Int32, y = i7 + (1 : Int32) := ⟨_, rfl⟩
            have h := nm_a ev43 h
            refine lv_iinc (v := v43) (lv' := [(4, .int v43), (0, .ref (ad 12 0)), (1, .int x1), (2, .long j6)]) hx hb dX12_land_58 hl (k := 3) rfl (by rw [ev43]; rfl) (by decide) rfl (fun ls hl => ?_)
            refine lv_goto (tgt := 21) hx hb dX12_land_61 (by decide) ?_
            exact ih5 j6 v43 _ _ _ hW hS (lv_sub hl [1, 2, 3, 0] rfl) h
          · have h := sh_t c42 h
            refine lv_aload_n hx hb dX12_land_41 rfl (lv_at hl 0 rfl) ?_
            refine gtX12_22 hx hb hts hown hK hW cz12 dX12_land_42 ?_
            refine lv_iload hx hb dX12_land_45 (lv_at hl 3 rfl) ?_
            obtain ⟨hj, h⟩ := ix_a h
            refine al54 hx hb hK hW cz54 hj dX12_land_47 ?_
            refine lv_if_lt (tgt := 58) hx hb dX12_land_48 (by decide) (fun c44 => ?_) (fun c44 => ?_)
            · have h := sh_t c44 h
              obtain ⟨v45, ev45⟩ : ∃ y : Int32, y = i7 + (1 : Int32) := ⟨_, rfl⟩
              have h := nm_a ev45 h
              refine lv_iinc (v := v45) (lv' := [(4, .int v45), (0, .ref (ad 12 0)), (1, .int x1), (2, .long j6)]) hx hb dX12_land_58 hl (k := 3) rfl (by rw [ev45]; rfl) (by decide) rfl (fun ls hl => ?_)
              refine lv_goto (tgt := 21) hx hb dX12_land_61 (by decide) ?_
              exact ih5 j6 v45 _ _ _ hW hS (lv_sub hl [1, 2, 3, 0] rfl) h
            · have h := sh_f c44 h
              refine lv_lload_n hx hb dX12_land_51 rfl (lv_at hl 2 rfl) ?_
              refine lv_lconst (v := (1 : Int64)) hx hb dX12_land_52 (by decide) ?_
              refine lv_iload hx hb dX12_land_53 (lv_at hl 3 rfl) ?_
              refine lv_lshl hx hb dX12_land_55 rfl ?_
              refine lv_lor hx hb dX12_land_56 ?_
              refine lv_topl (fun v46 ev46 => ?_)
              have h := nm_a ev46 h
              refine lv_lstore_n (lv' := [(2, .long v46), (0, .ref (ad 12 0)), (1, .int x1), (4, .int i7)]) hx hb dX12_land_57 rfl hl (by decide) rfl (fun ls hl => ?_)
              obtain ⟨v47, ev47⟩ : ∃ y : Int32, y = i7 + (1 : Int32) := ⟨_, rfl⟩
              have h := nm_a ev47 h
              refine lv_iinc (v := v47) (lv' := [(4, .int v47), (2, .long v46), (0, .ref (ad 12 0)), (1, .int x1)]) hx hb dX12_land_58 hl (k := 3) rfl (by rw [ev47]; rfl) (by decide) rfl (fun ls hl => ?_)
              refine lv_goto (tgt := 21) hx hb dX12_land_61 (by decide) ?_
              exact ih5 v46 v47 _ _ _ hW hS (lv_sub hl [2, 3, 1, 0] rfl) h
    exact L5 FU (0 : Int64) (0 : Int32) _ _ _ hW hS (lv_sub hl [2, 3, 1, 0] rfl) h
  · have h := sh_t c2 h
    refine lv_iconst (v := (-1 : Int32)) hx hb dX12_land_10 (by decide) ?_
    exact tb_iretE h hx hb hr hS hW hlk dX12_land_11
def fX12_name_b48 (M7 : Mem) (x1 : Int32) (k8 : Int32 → Int32 → Option (Int32 × Mem)) (i9 : Int32) (i10 : Int32) : Option (Int32 × Mem) :=
  if (20 : Int32) ≤ i10 then (some (i9, M7)) else (ix (((20 : Int32) * x1) + i10) 1280 <| if (mgI M7 8700 0 (((20 : Int32) * x1) + i10).toNatClampNeg) ≤ 0 then (nm (i9 + (0 : Int32)) fun v13 => nm (i10 + (1 : Int32)) fun v14 => k8 v13 v14) else (nm (i9 + (1 : Int32)) fun v15 => nm (i10 + (1 : Int32)) fun v16 => k8 v15 v16))
def fX12_name_l48 (M7 : Mem) (x1 : Int32) : Nat → Int32 → Int32 → Option (Int32 × Mem)
  | 0, _, _ => none
  | n + 1, i9, i10 => fX12_name_b48 M7 x1 (fX12_name_l48 M7 x1 n) i9 i10
def fX12_name (x1 : Int32) (x2 : Int32) (x3 : Int32) (M0 : Mem) : Option (Int32 × Mem) :=
  nm (fX12_isStone x1 M0) fun b1 => if b1 = 0 then (some ((-1 : Int32), M0)) else (nm (fX12_in x2 (0 : Int32) (19 : Int32)) fun b3 => if b3 = 0 then (some ((-1 : Int32), M0)) else (nm (fX12_in x3 (1 : Int32) (9 : Int32)) fun b5 => if b5 = 0 then (some ((-1 : Int32), M0)) else (ix (((20 : Int32) * x1) + x2) 1280 <| nm (msI M0 8700 0 ((((20 : Int32) * x1) + x2).toNatClampNeg) x3) fun M7 => fX12_name_l48 M7 x1 FU (0 : Int32) (0 : Int32))))
set_option maxHeartbeats 4000000 in
set_option maxRecDepth 100000 in
theorem mX12_name {l : Launch} {D : va_G} {cy : Nat → ClassId} {A : Nat → Prop} {Z : State → Heap → Prop} {ad : Nat → Nat → Nat} (hZk : ZOK A Z) (x1 : Int32) (x2 : Int32) (x3 : Int32) (M0 : Mem) (r : Int32) (M' : Mem) (h : fX12_name x1 x2 x3 M0 = some (r, M')) : Met l yX12_name (wt yX12_name cX12_name 6 (some .int)) (rm 2 43) (CPre D cy A Z cnM ad M0 [.ref (ad 12 0), .int x1, .int x2, .int x3]) (QI D cy A cnM ad r M') 0 0 A := by
  refine tb_start [.ref (ad 12 0), .int x1, .int x2, .int x3] [(0, .ref (ad 12 0)), (1, .int x1), (2, .int x2), (3, .int x3)] RX12 rfl (by decide +kernel) (Nat.le_of_ble_eq_true rfl) rfl (fun p e s m args below meth c hx hb hr hml hown hts hlk hW hK hZ ls hl => ?_)
  have hS : va_S A s.heap s.heap [] := va_S.rf
  unfold fX12_name at h
  refine lv_aload_n hx hb dX12_name_0 rfl (lv_at hl 0 rfl) ?_
  refine lv_iload_n hx hb dX12_name_1 rfl (lv_at hl 1 rfl) ?_
  refine tb_cVZ hZk hx hb hml hown hts hK hZ hW hS [.int x1] (mX12_isStone (l := l) hZk x1 M0 (fX12_isStone x1 M0) rfl) pmX12_isStone tw1415 (Wd.recv hK hW (t := 12) (by decide) cz12 (C := RX12) (T := TX12) (N := 58) rfl) ⟨Nat.le_of_ble_eq_true rfl, Nat.le_of_ble_eq_true rfl⟩ rfl hl.1 (Nat.le_of_ble_eq_true rfl) ⟨Nat.le_refl _, Nat.le_refl _⟩ rfl dX12_name_2 (fun H locs hW hS hzz => ?_)
  refine lv_topi (fun b1 eb1 => ?_)
  have h := nm_a eb1 h
  have hzb1 : b1 = 0 ∨ b1 = 1 := by rw [eb1]; exact hzz
  refine lv_if_eq (tgt := 28) hx hb dX12_name_5 (by decide) (fun c2 => ?_) (fun c2 => ?_)
  · have h := sh_t c2 h
    refine lv_iconst (v := (-1 : Int32)) hx hb dX12_name_28 (by decide) ?_
    exact tb_iretE h hx hb hr hS hW hlk dX12_name_29
  · have h := sh_f c2 h
    refine lv_iload_n hx hb dX12_name_8 rfl (lv_at hl 2 rfl) ?_
    refine lv_iconst (v := (0 : Int32)) hx hb dX12_name_9 (by decide) ?_
    refine lv_bipush (v := (19 : Int32)) hx hb dX12_name_10 (by decide) ?_
    refine tb_cSZ hZk hx hb hml hown hts hK hZ hW hS [.int x2, .int (0 : Int32), .int (19 : Int32)] (mX12_in (l := l) hZk x2 (0 : Int32) (19 : Int32) M0 (fX12_in x2 (0 : Int32) (19 : Int32)) rfl) pmX12_in tw1401 ⟨Nat.le_of_ble_eq_true rfl, Nat.le_of_ble_eq_true rfl⟩ rfl hl.1 (Nat.le_of_ble_eq_true rfl) ⟨Nat.le_refl _, Nat.le_refl _⟩ rfl dX12_name_12 (fun H locs hW hS hzz => ?_)
    refine lv_topi (fun b3 eb3 => ?_)
    have h := nm_a eb3 h
    have hzb3 : b3 = 0 ∨ b3 = 1 := by rw [eb3]; exact hzz
    refine lv_if_eq (tgt := 28) hx hb dX12_name_15 (by decide) (fun c4 => ?_) (fun c4 => ?_)
    · have h := sh_t c4 h
      refine lv_iconst (v := (-1 : Int32)) hx hb dX12_name_28 (by decide) ?_
      exact tb_iretE h hx hb hr hS hW hlk dX12_name_29
    · have h := sh_f c4 h
      refine lv_iload_n hx hb dX12_name_18 rfl (lv_at hl 3 rfl) ?_
      refine lv_iconst (v := (1 : Int32)) hx hb dX12_name_19 (by decide) ?_
      refine lv_bipush (v := (9 : Int32)) hx hb dX12_name_20 (by decide) ?_
      refine tb_cSZ hZk hx hb hml hown hts hK hZ hW hS [.int x3, .int (1 : Int32), .int (9 : Int32)] (mX12_in (l := l) hZk x3 (1 : Int32) (9 : Int32) M0 (fX12_in x3 (1 : Int32) (9 : Int32)) rfl) pmX12_in tw1401 ⟨Nat.le_of_ble_eq_true rfl, Nat.le_of_ble_eq_true rfl⟩ rfl hl.1 (Nat.le_of_ble_eq_true rfl) ⟨Nat.le_refl _, Nat.le_refl _⟩ rfl dX12_name_22 (fun H locs hW hS hzz => ?_)
      refine lv_topi (fun b5 eb5 => ?_)
      have h := nm_a eb5 h
      have hzb5 : b5 = 0 ∨ b5 = 1 := by rw [eb5]; exact hzz
      refine lv_if_ne (tgt := 30) hx hb dX12_name_25 (by decide) (fun c6 => ?_) (fun c6 => ?_)
      · have h := sh_f c6 h
        refine lv_aload_n hx hb dX12_name_30 rfl (lv_at hl 0 rfl) ?_
        refine gtX12_125 hx hb hts hown hK hW cz12 dX12_name_31 ?_
        refine lv_bipush (v := (20 : Int32)) hx hb dX12_name_34 (by decide) ?_
        refine lv_iload_n hx hb dX12_name_36 rfl (lv_at hl 1 rfl) ?_
        refine lv_imul hx hb dX12_name_37 ?_
        refine lv_iload_n hx hb dX12_name_38 rfl (lv_at hl 2 rfl) ?_
        refine lv_iadd hx hb dX12_name_39 ?_
        refine lv_iload_n hx hb dX12_name_40 rfl (lv_at hl 3 rfl) ?_
        obtain ⟨hj, h⟩ := ix_a h
        refine as87 hx hb hK hW hS cz87 hj dX12_name_41 (fun H locs hW hS => ?_)
        obtain ⟨M7, eM7⟩ : ∃ y, y = msI M0 8700 0 ((((20 : Int32) * x1) + x2).toNatClampNeg) x3 := ⟨_, rfl⟩
        have h := nm_a eM7 h
        rw [← eM7] at hW
        refine lv_iconst (v := (0 : Int32)) hx hb dX12_name_42 (by decide) ?_
        refine lv_istore (lv' := [(4, .int (0 : Int32)), (0, .ref (ad 12 0)), (1, .int x1), (2, .int x2), (3, .int x3)]) hx hb dX12_name_43 hl (by decide) rfl (fun ls hl => ?_)
        refine lv_iconst (v := (0 : Int32)) hx hb dX12_name_45 (by decide) ?_
        refine lv_istore (lv' := [(5, .int (0 : Int32)), (4, .int (0 : Int32)), (0, .ref (ad 12 0)), (1, .int x1), (2, .int x2), (3, .int x3)]) hx hb dX12_name_46 hl (by decide) rfl (fun ls hl => ?_)
        have L8 : ∀ (n8 : Nat) (i9 : Int32) (i10 : Int32) (H : Heap) (locs : List Loc) (ls : Array Slot), Wd D cy A cnM ad M7 H → va_S A s.heap H locs → lv_has ls 6 [(0, .ref (ad 12 0)), (1, .int x1), (4, .int i9), (5, .int i10)] → fX12_name_l48 M7 x1 n8 i9 i10 = some (r, M') → W p l e (rm 2 43) s m args below meth c H locs 0 0 (MQ below (QI D cy A cnM ad r M') args s 0 0 A) (F0 m 48 ls []) := by
          intro n8
          induction n8 with
          | zero => intro i9 i10 H locs ls hW hS hl h; cases h
          | succ n8 ih8 =>
            intro i9 i10 H locs ls hW hS hl h
            unfold fX12_name_l48 fX12_name_b48 at h
            refine lv_iload hx hb dX12_name_48 (lv_at hl 3 rfl) ?_
            refine lv_bipush (v := (20 : Int32)) hx hb dX12_name_50 (by decide) ?_
            refine lv_icmp_ge (tgt := 86) hx hb dX12_name_52 (by decide) (fun c11 => ?_) (fun c11 => ?_)
            · have h := sh_t c11 h
              refine lv_iload hx hb dX12_name_86 (lv_at hl 2 rfl) ?_
              exact tb_iretE h hx hb hr hS hW hlk dX12_name_88
            · have h := sh_f c11 h
              refine lv_iload hx hb dX12_name_55 (lv_at hl 2 rfl) ?_
              refine lv_aload_n hx hb dX12_name_57 rfl (lv_at hl 0 rfl) ?_
              refine gtX12_125 hx hb hts hown hK hW cz12 dX12_name_58 ?_
              refine lv_bipush (v := (20 : Int32)) hx hb dX12_name_61 (by decide) ?_
              refine lv_iload_n hx hb dX12_name_63 rfl (lv_at hl 1 rfl) ?_
              refine lv_imul hx hb dX12_name_64 ?_
              refine lv_iload hx hb dX12_name_65 (lv_at hl 3 rfl) ?_
              refine lv_iadd hx hb dX12_name_67 ?_
              obtain ⟨hj, h⟩ := ix_a h
              refine al87 hx hb hK hW cz87 hj dX12_name_68 ?_
              refine lv_if_le (tgt := 76) hx hb dX12_name_69 (by decide) (fun c12 => ?_) (fun c12 => ?_)
              · have h := sh_t c12 h
                refine lv_iconst (v := (0 : Int32)) hx hb dX12_name_76 (by decide) ?_
                refine lv_iadd hx hb dX12_name_77 ?_
                refine lv_topi (fun v13 ev13 => ?_)
                have h := nm_a ev13 h
                refine lv_istore (lv' := [(4, .int v13), (0, .ref (ad 12 0)), (1, .int x1), (5, .int i10)]) hx hb dX12_name_78 hl (by decide) rfl (fun ls hl => ?_)
                obtain ⟨v14, ev14⟩ : ∃ y : Int32, y = i10 + (1 : Int32) := ⟨_, rfl⟩
                have h := nm_a ev14 h
                refine lv_iinc (v := v14) (lv' := [(5, .int v14), (4, .int v13), (0, .ref (ad 12 0)), (1, .int x1)]) hx hb dX12_name_80 hl (k := 3) rfl (by rw [ev14]; rfl) (by decide) rfl (fun ls hl => ?_)
                refine lv_goto (tgt := 48) hx hb dX12_name_83 (by decide) ?_
                exact ih8 v13 v14 _ _ _ hW hS (lv_sub hl [2, 3, 1, 0] rfl) h
              · have h := sh_f c12 h
                refine lv_iconst (v := (1 : Int32)) hx hb dX12_name_72 (by decide) ?_
                refine lv_goto (tgt := 77) hx hb dX12_name_73 (by decide) ?_
                refine lv_iadd hx hb dX12_name_77 ?_
                refine lv_topi (fun v15 ev15 => ?_)
                have h := nm_a ev15 h
                refine lv_istore (lv' := [(4, .int v15), (0, .ref (ad 12 0)), (1, .int x1), (5, .int i10)]) hx hb dX12_name_78 hl (by decide) rfl (fun ls hl => ?_)
                obtain ⟨v16, ev16⟩ : ∃ y : Int32, y = i10 + (1 : Int32) := ⟨_, rfl⟩
                have h := nm_a ev16 h
                refine lv_iinc (v := v16) (lv' := [(5, .int v16), (4, .int v15), (0, .ref (ad 12 0)), (1, .int x1)]) hx hb dX12_name_80 hl (k := 3) rfl (by rw [ev16]; rfl) (by decide) rfl (fun ls hl => ?_)
                refine lv_goto (tgt := 48) hx hb dX12_name_83 (by decide) ?_
                exact ih8 v15 v16 _ _ _ hW hS (lv_sub hl [2, 3, 1, 0] rfl) h
        exact L8 FU (0 : Int32) (0 : Int32) _ _ _ hW hS (lv_sub hl [2, 3, 1, 0] rfl) h
      · have h := sh_t c6 h
        refine lv_iconst (v := (-1 : Int32)) hx hb dX12_name_28 (by decide) ?_
        exact tb_iretE h hx hb hr hS hW hlk dX12_name_29
def fX12_shareOf_b5 (x1 : Int32) (x2 : Int32) (M0 : Mem) (k1 : Int32 → Int32 → Option Int32) (i2 : Int32) (i3 : Int32) : Option Int32 :=
  if (20 : Int32) ≤ i3 then (if i2 = 0 then (some (0 : Int32)) else (ix (((20 : Int32) * x1) + x2) 1280 <| nzI i2 <| some (((1000 : Int32) * (mgI M0 8700 0 (((20 : Int32) * x1) + x2).toNatClampNeg)) / i2))) else (ix (((20 : Int32) * x1) + i3) 1280 <| nm (i2 + (mgI M0 8700 0 (((20 : Int32) * x1) + i3).toNatClampNeg)) fun v6 => nm (i3 + (1 : Int32)) fun v7 => k1 v6 v7)
def fX12_shareOf_l5 (x1 : Int32) (x2 : Int32) (M0 : Mem) : Nat → Int32 → Int32 → Option Int32
  | 0, _, _ => none
  | n + 1, i2, i3 => fX12_shareOf_b5 x1 x2 M0 (fX12_shareOf_l5 x1 x2 M0 n) i2 i3
def fX12_shareOf (x1 : Int32) (x2 : Int32) (M0 : Mem) : Option Int32 :=
  fX12_shareOf_l5 x1 x2 M0 FU (0 : Int32) (0 : Int32)
set_option maxHeartbeats 4000000 in
set_option maxRecDepth 100000 in
theorem mX12_shareOf {l : Launch} {D : va_G} {cy : Nat → ClassId} {A : Nat → Prop} {Z : State → Heap → Prop} {ad : Nat → Nat → Nat} (hZk : ZOK A Z) (x1 : Int32) (x2 : Int32) (M0 : Mem) (r : Int32) (h : fX12_shareOf x1 x2 M0 = some r) : Met l yX12_shareOf (wt yX12_shareOf cX12_shareOf 5 (some .int)) (rm 0 0) (CPre D cy A Z cnM ad M0 [.ref (ad 12 0), .int x1, .int x2]) (QI D cy A cnM ad r M0) 0 0 A := by
  refine tb_start [.ref (ad 12 0), .int x1, .int x2] [(0, .ref (ad 12 0)), (1, .int x1), (2, .int x2)] RX12 rfl (by decide +kernel) (Nat.le_of_ble_eq_true rfl) rfl (fun p e s m args below meth c hx hb hr hml hown hts hlk hW hK hZ ls hl => ?_)
  have hS : va_S A s.heap s.heap [] := va_S.rf
  unfold fX12_shareOf at h
  refine lv_iconst (v := (0 : Int32)) hx hb dX12_shareOf_0 (by decide) ?_
  refine lv_istore_n (lv' := [(3, .int (0 : Int32)), (0, .ref (ad 12 0)), (1, .int x1), (2, .int x2)]) hx hb dX12_shareOf_1 rfl hl (by decide) rfl (fun ls hl => ?_)
  refine lv_iconst (v := (0 : Int32)) hx hb dX12_shareOf_2 (by decide) ?_
  refine lv_istore (lv' := [(4, .int (0 : Int32)), (3, .int (0 : Int32)), (0, .ref (ad 12 0)), (1, .int x1), (2, .int x2)]) hx hb dX12_shareOf_3 hl (by decide) rfl (fun ls hl => ?_)
  have L1 : ∀ (n1 : Nat) (i2 : Int32) (i3 : Int32) (H : Heap) (locs : List Loc) (ls : Array Slot), Wd D cy A cnM ad M0 H → va_S A s.heap H locs → lv_has ls 5 [(0, .ref (ad 12 0)), (1, .int x1), (2, .int x2), (3, .int i2), (4, .int i3)] → fX12_shareOf_l5 x1 x2 M0 n1 i2 i3 = some r → W p l e (rm 0 0) s m args below meth c H locs 0 0 (MQ below (QI D cy A cnM ad r M0) args s 0 0 A) (F0 m 5 ls []) := by
    intro n1
    induction n1 with
    | zero => intro i2 i3 H locs ls hW hS hl h; cases h
    | succ n1 ih1 =>
      intro i2 i3 H locs ls hW hS hl h
      unfold fX12_shareOf_l5 fX12_shareOf_b5 at h
      refine lv_iload hx hb dX12_shareOf_5 (lv_at hl 4 rfl) ?_
      refine lv_bipush (v := (20 : Int32)) hx hb dX12_shareOf_7 (by decide) ?_
      refine lv_icmp_ge (tgt := 33) hx hb dX12_shareOf_9 (by decide) (fun c4 => ?_) (fun c4 => ?_)
      · have h := sh_t c4 h
        refine lv_iload_n hx hb dX12_shareOf_33 rfl (lv_at hl 3 rfl) ?_
        refine lv_if_ne (tgt := 41) hx hb dX12_shareOf_34 (by decide) (fun c5 => ?_) (fun c5 => ?_)
        · have h := sh_f c5 h
          refine lv_sipush (v := (1000 : Int32)) hx hb dX12_shareOf_41 (by decide) ?_
          refine lv_aload_n hx hb dX12_shareOf_44 rfl (lv_at hl 0 rfl) ?_
          refine gtX12_125 hx hb hts hown hK hW cz12 dX12_shareOf_45 ?_
          refine lv_bipush (v := (20 : Int32)) hx hb dX12_shareOf_48 (by decide) ?_
          refine lv_iload_n hx hb dX12_shareOf_50 rfl (lv_at hl 1 rfl) ?_
          refine lv_imul hx hb dX12_shareOf_51 ?_
          refine lv_iload_n hx hb dX12_shareOf_52 rfl (lv_at hl 2 rfl) ?_
          refine lv_iadd hx hb dX12_shareOf_53 ?_
          obtain ⟨hj, h⟩ := ix_a h
          refine al87 hx hb hK hW cz87 hj dX12_shareOf_54 ?_
          refine lv_imul hx hb dX12_shareOf_55 ?_
          refine lv_iload_n hx hb dX12_shareOf_56 rfl (lv_at hl 3 rfl) ?_
          obtain ⟨hne, h⟩ := nzI_a h
          refine lv_idiv hx hb dX12_shareOf_57 hne ?_
          exact tb_iretO h hx hb hr hS hW hlk dX12_shareOf_58
        · have h := sh_t c5 h
          refine lv_iconst (v := (0 : Int32)) hx hb dX12_shareOf_37 (by decide) ?_
          refine lv_goto (tgt := 58) hx hb dX12_shareOf_38 (by decide) ?_
          exact tb_iretO h hx hb hr hS hW hlk dX12_shareOf_58
      · have h := sh_f c4 h
        refine lv_iload_n hx hb dX12_shareOf_12 rfl (lv_at hl 3 rfl) ?_
        refine lv_aload_n hx hb dX12_shareOf_13 rfl (lv_at hl 0 rfl) ?_
        refine gtX12_125 hx hb hts hown hK hW cz12 dX12_shareOf_14 ?_
        refine lv_bipush (v := (20 : Int32)) hx hb dX12_shareOf_17 (by decide) ?_
        refine lv_iload_n hx hb dX12_shareOf_19 rfl (lv_at hl 1 rfl) ?_
        refine lv_imul hx hb dX12_shareOf_20 ?_
        refine lv_iload hx hb dX12_shareOf_21 (lv_at hl 4 rfl) ?_
        refine lv_iadd hx hb dX12_shareOf_23 ?_
        obtain ⟨hj, h⟩ := ix_a h
        refine al87 hx hb hK hW cz87 hj dX12_shareOf_24 ?_
        refine lv_iadd hx hb dX12_shareOf_25 ?_
        refine lv_topi (fun v6 ev6 => ?_)
        have h := nm_a ev6 h
        refine lv_istore_n (lv' := [(3, .int v6), (0, .ref (ad 12 0)), (1, .int x1), (2, .int x2), (4, .int i3)]) hx hb dX12_shareOf_26 rfl hl (by decide) rfl (fun ls hl => ?_)
        obtain ⟨v7, ev7⟩ : ∃ y : Int32, y = i3 + (1 : Int32) := ⟨_, rfl⟩
        have h := nm_a ev7 h
        refine lv_iinc (v := v7) (lv' := [(4, .int v7), (3, .int v6), (0, .ref (ad 12 0)), (1, .int x1), (2, .int x2)]) hx hb dX12_shareOf_27 hl (k := 4) rfl (by rw [ev7]; rfl) (by decide) rfl (fun ls hl => ?_)
        refine lv_goto (tgt := 5) hx hb dX12_shareOf_30 (by decide) ?_
        exact ih1 v6 v7 _ _ _ hW hS (lv_sub hl [2, 3, 4, 1, 0] rfl) h
  exact L1 FU (0 : Int32) (0 : Int32) _ _ _ hW hS (lv_sub hl [2, 3, 4, 1, 0] rfl) h
