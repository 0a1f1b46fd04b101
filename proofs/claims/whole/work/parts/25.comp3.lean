def fX9_counting_b4 (M0 : Mem) (k1 : Int64 → Int32 → Option Int64) (j2 : Int64) (i3 : Int32) : Option Int64 :=
  if (mgI M0 502 0 0) ≤ i3 then (some j2) else (ix i3 64 <| if (mgI M0 4100 0 i3.toNatClampNeg) ≤ 0 then (nm (i3 + (1 : Int32)) fun v6 => k1 j2 v6) else (nm (j2 ||| (fX11_bit i3)) fun v7 => nm (i3 + (1 : Int32)) fun v8 => k1 v7 v8))
def fX9_counting_l4 (M0 : Mem) : Nat → Int64 → Int32 → Option Int64
  | 0, _, _ => none
  | n + 1, j2, i3 => fX9_counting_b4 M0 (fX9_counting_l4 M0 n) j2 i3
def fX9_counting (M0 : Mem) : Option Int64 :=
  fX9_counting_l4 M0 FU (0 : Int64) (0 : Int32)
set_option maxHeartbeats 4000000 in
set_option maxRecDepth 100000 in
theorem mX9_counting {l : Launch} {D : va_G} {cy : Nat → ClassId} {A : Nat → Prop} {K : KC} {nS nL : Nat} {ad : Nat → Nat → Nat} (hZk : ZOK A (ZC A K)) (M0 : Mem) (r : Int64) (h : fX9_counting M0 = some r) : Met l yX9_counting (wt yX9_counting cX9_counting 4 (some .long)) (rm 1 20) (CPre D cy A (ZC A K) (cnC nS nL) ad M0 [.ref (ad 9 0)]) (QL D cy A (cnC nS nL) ad r M0) 0 0 A := by
  refine tb_start [.ref (ad 9 0)] [(0, .ref (ad 9 0))] RX9 rfl (by decide +kernel) (Nat.le_of_ble_eq_true rfl) rfl (fun p e s m args below meth c hx hb hr hml hown hts hlk hW hK hZ ls hl => ?_)
  have hS : va_S A s.heap s.heap [] := va_S.rf
  unfold fX9_counting at h
  refine lv_lconst (v := (0 : Int64)) hx hb dX9_counting_0 (by decide) ?_
  refine lv_lstore_n (lv' := [(1, .long (0 : Int64)), (0, .ref (ad 9 0))]) hx hb dX9_counting_1 rfl hl (by decide) rfl (fun ls hl => ?_)
  refine lv_iconst (v := (0 : Int32)) hx hb dX9_counting_2 (by decide) ?_
  refine lv_istore_n (lv' := [(3, .int (0 : Int32)), (1, .long (0 : Int64)), (0, .ref (ad 9 0))]) hx hb dX9_counting_3 rfl hl (by decide) rfl (fun ls hl => ?_)
  have L1 : ∀ (n1 : Nat) (j2 : Int64) (i3 : Int32) (H : Heap) (locs : List Loc) (ls : Array Slot), Wd D cy A (cnC nS nL) ad M0 H → va_S A s.heap H locs → lv_has ls 4 [(0, .ref (ad 9 0)), (1, .long j2), (3, .int i3)] → fX9_counting_l4 M0 n1 j2 i3 = some r → W p l e (rm 1 20) s m args below meth c H locs 0 0 (MQ below (QL D cy A (cnC nS nL) ad r M0) args s 0 0 A) (F0 m 4 ls []) := by
    intro n1
    induction n1 with
    | zero => intro j2 i3 H locs ls hW hS hl h; cases h
    | succ n1 ih1 =>
      intro j2 i3 H locs ls hW hS hl h
      unfold fX9_counting_l4 fX9_counting_b4 at h
      refine lv_iload_n hx hb dX9_counting_4 rfl (lv_at hl 2 rfl) ?_
      refine lv_aload_n hx hb dX9_counting_5 rfl (lv_at hl 0 rfl) ?_
      refine gtX9_21 hx hb hts hown hK hW cz9 dX9_counting_6 ?_
      refine gtX9_25 hx hb hts hown hK hW cz5 dX9_counting_9 ?_
      refine lv_icmp_ge (tgt := 37) hx hb dX9_counting_12 (by decide) (fun c4 => ?_) (fun c4 => ?_)
      · replace h := sh_t c4 h
        refine lv_lload_n hx hb dX9_counting_37 rfl (lv_at hl 1 rfl) ?_
        exact tb_lretO h hx hb hr hS hW hlk dX9_counting_38
      · replace h := sh_f c4 h
        refine lv_aload_n hx hb dX9_counting_15 rfl (lv_at hl 0 rfl) ?_
        refine gtX9_9 hx hb hts hown hK hW cz9 dX9_counting_16 ?_
        refine lv_iload_n hx hb dX9_counting_19 rfl (lv_at hl 2 rfl) ?_
        replace h := ix_a h
        obtain ⟨hj, h⟩ := h
        refine al41 hx hb hK hW cz41 hj dX9_counting_20 ?_
        refine lv_if_le (tgt := 31) hx hb dX9_counting_21 (by decide) (fun c5 => ?_) (fun c5 => ?_)
        · replace h := sh_t c5 h
          obtain ⟨v6, ev6⟩ : ∃ y : Int32, y = i3 + (1 : Int32) := ⟨_, rfl⟩
          replace h := nm_a ev6 h
          refine lv_iinc (v := v6) (lv' := [(3, .int v6), (0, .ref (ad 9 0)), (1, .long j2)]) hx hb dX9_counting_31 hl (k := 2) rfl (by rw [ev6]; rfl) (by decide) rfl (fun ls hl => ?_)
          refine lv_goto (tgt := 4) hx hb dX9_counting_34 (by decide) ?_
          exact ih1 j2 v6 _ _ _ hW hS (lv_sub hl [1, 2, 0] rfl) h
        · replace h := sh_f c5 h
          refine lv_lload_n hx hb dX9_counting_24 rfl (lv_at hl 1 rfl) ?_
          refine lv_iload_n hx hb dX9_counting_25 rfl (lv_at hl 2 rfl) ?_
          refine tb_cNL hZk hx hb hml hown hts hK hZ hW hS [.int i3] (mX11_bit (l := l) hZk i3 M0 (fX11_bit i3) rfl) pmX11_bit (hZ.2.2.2.2.2.1 9 _ rfl) ⟨Nat.le_of_ble_eq_true rfl, Nat.le_of_ble_eq_true rfl⟩ rfl hl.1 (Nat.le_of_ble_eq_true rfl) ⟨Nat.le_refl _, Nat.le_refl _⟩ rfl dX9_counting_26 (fun H locs hW hS => ?_)
          refine lv_lor hx hb dX9_counting_29 ?_
          refine lv_topl (fun v7 ev7 => ?_)
          replace h := nm_a ev7 h
          refine lv_lstore_n (lv' := [(1, .long v7), (0, .ref (ad 9 0)), (3, .int i3)]) hx hb dX9_counting_30 rfl hl (by decide) rfl (fun ls hl => ?_)
          obtain ⟨v8, ev8⟩ : ∃ y : Int32, y = i3 + (1 : Int32) := ⟨_, rfl⟩
          replace h := nm_a ev8 h
          refine lv_iinc (v := v8) (lv' := [(3, .int v8), (1, .long v7), (0, .ref (ad 9 0))]) hx hb dX9_counting_31 hl (k := 2) rfl (by rw [ev8]; rfl) (by decide) rfl (fun ls hl => ?_)
          refine lv_goto (tgt := 4) hx hb dX9_counting_34 (by decide) ?_
          exact ih1 v7 v8 _ _ _ hW hS (lv_sub hl [2, 1, 0] rfl) h
  exact L1 FU (0 : Int64) (0 : Int32) _ _ _ hW hS (lv_sub hl [2, 1, 0] rfl) h
def fX9_isYes (x1 : Option Nat) (M0 : Mem) : Option Int32 :=
  oc x1 none fun a1 => ix (mgI M0 800 a1 0) 64 <| if (mgI M0 4100 0 (mgI M0 800 a1 0).toNatClampNeg) ≤ 0 then (some (0 : Int32)) else (ix (mgI M0 800 a1 0) 64 <| if (mgI M0 4200 0 (mgI M0 800 a1 0).toNatClampNeg) < ((1000 : Int32) * (mgI M0 803 a1 0)) then (some (0 : Int32)) else (some (1 : Int32)))
set_option maxHeartbeats 4000000 in
set_option maxRecDepth 100000 in
theorem mX9_isYes {l : Launch} {D : va_G} {cy : Nat → ClassId} {A : Nat → Prop} {K : KC} {nS nL : Nat} {ad : Nat → Nat → Nat} (hZk : ZOK A (ZC A K)) (x1 : Option Nat) (M0 : Mem) (hx1 : ∀ z, x1 = some z → z < (cnC nS nL) 8) (r : Int32) (h : fX9_isYes x1 M0 = some r) : Met l yX9_isYes (wt yX9_isYes cX9_isYes 2 (some .boolean)) (rm 0 0) (CPre D cy A (ZC A K) (cnC nS nL) ad M0 [.ref (ad 9 0), rv (ad 8) x1]) (QZ D cy A (cnC nS nL) ad r M0) 0 0 A := by
  refine tb_start [.ref (ad 9 0), rv (ad 8) x1] [(0, .ref (ad 9 0)), (1, rv (ad 8) x1)] RX9 rfl (by decide +kernel) (by simp [lg_sl, List.flatMap_cons, rv_cat, cat_r, cat_i, cat_l]) (by simp [lv_args, rv_cat, cat_r, cat_i, cat_l]) (fun p e s m args below meth c hx hb hr hml hown hts hlk hW hK hZ ls hl => ?_)
  have hS : va_S A s.heap s.heap [] := va_S.rf
  unfold fX9_isYes at h
  refine lv_aload_n hx hb dX9_isYes_0 rfl (lv_at hl 0 rfl) ?_
  refine gtX9_9 hx hb hts hown hK hW cz9 dX9_isYes_1 ?_
  refine tb_aload_n hx hb dX9_isYes_4 rfl (lv_at hl 1 rfl) ?_
  replace h := oc_d h
  obtain ⟨a1, ea1, h⟩ := h
  subst ea1
  have la1 := hx1 _ rfl
  refine gtX9_58 hx hb hts hown hK hW la1 dX9_isYes_5 ?_
  replace h := ix_a h
  obtain ⟨hj, h⟩ := h
  refine al41 hx hb hK hW cz41 hj dX9_isYes_8 ?_
  refine lv_if_le (tgt := 36) hx hb dX9_isYes_9 (by decide) (fun c2 => ?_) (fun c2 => ?_)
  · replace h := sh_t c2 h
    refine lv_iconst (v := (0 : Int32)) hx hb dX9_isYes_36 (by decide) ?_
    exact tb_zretO h hx hb hr hS hW hlk (by decide) dX9_isYes_37
  · replace h := sh_f c2 h
    refine lv_aload_n hx hb dX9_isYes_12 rfl (lv_at hl 0 rfl) ?_
    refine gtX9_15 hx hb hts hown hK hW cz9 dX9_isYes_13 ?_
    refine lv_aload_n hx hb dX9_isYes_16 rfl (lv_at hl 1 rfl) ?_
    refine gtX9_58 hx hb hts hown hK hW la1 dX9_isYes_17 ?_
    replace h := ix_a h
    obtain ⟨hj, h⟩ := h
    refine al42 hx hb hK hW cz42 hj dX9_isYes_20 ?_
    refine lv_sipush (v := (1000 : Int32)) hx hb dX9_isYes_21 (by decide) ?_
    refine lv_aload_n hx hb dX9_isYes_24 rfl (lv_at hl 1 rfl) ?_
    refine gtX9_64 hx hb hts hown hK hW la1 dX9_isYes_25 ?_
    refine lv_imul hx hb dX9_isYes_28 ?_
    refine lv_icmp_lt (tgt := 36) hx hb dX9_isYes_29 (by decide) (fun c3 => ?_) (fun c3 => ?_)
    · replace h := sh_t c3 h
      refine lv_iconst (v := (0 : Int32)) hx hb dX9_isYes_36 (by decide) ?_
      exact tb_zretO h hx hb hr hS hW hlk (by decide) dX9_isYes_37
    · replace h := sh_f c3 h
      refine lv_iconst (v := (1 : Int32)) hx hb dX9_isYes_32 (by decide) ?_
      refine lv_goto (tgt := 37) hx hb dX9_isYes_33 (by decide) ?_
      exact tb_zretO h hx hb hr hS hW hlk (by decide) dX9_isYes_37
def fX9_sayingYes_b4 (M0 : Mem) (k1 : Int64 → Int32 → Option Int64) (j2 : Int64) (i3 : Int32) : Option Int64 :=
  if (mgI M0 502 0 0) ≤ i3 then (some j2) else (ix i3 64 <| nm (mgR M0 3200 0 i3.toNatClampNeg) fun o5 => oc o5 none fun a6 => if (mgI M0 801 a6 0) = (3 : Int32) then (bd (fX9_isYes (some a6) M0) fun b9 => if b9 = 0 then (nm (i3 + (1 : Int32)) fun v11 => k1 j2 v11) else (nm (j2 ||| (fX11_bit i3)) fun v12 => nm (i3 + (1 : Int32)) fun v13 => k1 v12 v13)) else (nm (i3 + (1 : Int32)) fun v8 => k1 j2 v8))
def fX9_sayingYes_l4 (M0 : Mem) : Nat → Int64 → Int32 → Option Int64
  | 0, _, _ => none
  | n + 1, j2, i3 => fX9_sayingYes_b4 M0 (fX9_sayingYes_l4 M0 n) j2 i3
def fX9_sayingYes (M0 : Mem) : Option Int64 :=
  fX9_sayingYes_l4 M0 FU (0 : Int64) (0 : Int32)
set_option maxHeartbeats 4000000 in
set_option maxRecDepth 100000 in
theorem mX9_sayingYes {l : Launch} {D : va_G} {cy : Nat → ClassId} {A : Nat → Prop} {K : KC} {nS nL : Nat} {ad : Nat → Nat → Nat} (hZk : ZOK A (ZC A K)) (M0 : Mem) (r : Int64) (h : fX9_sayingYes M0 = some r) : Met l yX9_sayingYes (wt yX9_sayingYes cX9_sayingYes 5 (some .long)) (rm 1 21) (CPre D cy A (ZC A K) (cnC nS nL) ad M0 [.ref (ad 9 0)]) (QL D cy A (cnC nS nL) ad r M0) 0 0 A := by
  refine tb_start [.ref (ad 9 0)] [(0, .ref (ad 9 0))] RX9 rfl (by decide +kernel) (Nat.le_of_ble_eq_true rfl) rfl (fun p e s m args below meth c hx hb hr hml hown hts hlk hW hK hZ ls hl => ?_)
  have hS : va_S A s.heap s.heap [] := va_S.rf
  unfold fX9_sayingYes at h
  refine lv_lconst (v := (0 : Int64)) hx hb dX9_sayingYes_0 (by decide) ?_
  refine lv_lstore_n (lv' := [(1, .long (0 : Int64)), (0, .ref (ad 9 0))]) hx hb dX9_sayingYes_1 rfl hl (by decide) rfl (fun ls hl => ?_)
  refine lv_iconst (v := (0 : Int32)) hx hb dX9_sayingYes_2 (by decide) ?_
  refine lv_istore_n (lv' := [(3, .int (0 : Int32)), (1, .long (0 : Int64)), (0, .ref (ad 9 0))]) hx hb dX9_sayingYes_3 rfl hl (by decide) rfl (fun ls hl => ?_)
  have L1 : ∀ (n1 : Nat) (j2 : Int64) (i3 : Int32) (H : Heap) (locs : List Loc) (ls : Array Slot), Wd D cy A (cnC nS nL) ad M0 H → va_S A s.heap H locs → lv_has ls 5 [(0, .ref (ad 9 0)), (1, .long j2), (3, .int i3)] → fX9_sayingYes_l4 M0 n1 j2 i3 = some r → W p l e (rm 1 21) s m args below meth c H locs 0 0 (MQ below (QL D cy A (cnC nS nL) ad r M0) args s 0 0 A) (F0 m 4 ls []) := by
    intro n1
    induction n1 with
    | zero => intro j2 i3 H locs ls hW hS hl h; cases h
    | succ n1 ih1 =>
      intro j2 i3 H locs ls hW hS hl h
      unfold fX9_sayingYes_l4 fX9_sayingYes_b4 at h
      refine lv_iload_n hx hb dX9_sayingYes_4 rfl (lv_at hl 2 rfl) ?_
      refine lv_aload_n hx hb dX9_sayingYes_5 rfl (lv_at hl 0 rfl) ?_
      refine gtX9_21 hx hb hts hown hK hW cz9 dX9_sayingYes_6 ?_
      refine gtX9_25 hx hb hts hown hK hW cz5 dX9_sayingYes_9 ?_
      refine lv_icmp_ge (tgt := 57) hx hb dX9_sayingYes_12 (by decide) (fun c4 => ?_) (fun c4 => ?_)
      · replace h := sh_t c4 h
        refine lv_lload_n hx hb dX9_sayingYes_57 rfl (lv_at hl 1 rfl) ?_
        exact tb_lretO h hx hb hr hS hW hlk dX9_sayingYes_58
      · replace h := sh_f c4 h
        refine lv_aload_n hx hb dX9_sayingYes_15 rfl (lv_at hl 0 rfl) ?_
        refine gtX9_21 hx hb hts hown hK hW cz9 dX9_sayingYes_16 ?_
        refine gtX9_35 hx hb hts hown hK hW cz5 dX9_sayingYes_19 ?_
        refine lv_iload_n hx hb dX9_sayingYes_22 rfl (lv_at hl 2 rfl) ?_
        replace h := ix_a h
        obtain ⟨hj, h⟩ := h
        refine al32 hx hb hK hW cz32 hj dX9_sayingYes_23 (fun o5 eo5 ho5 => ?_)
        replace h := nm_a eo5 h
        refine tb_astore (lv' := [(4, rv (ad 8) o5), (0, .ref (ad 9 0)), (1, .long j2), (3, .int i3)]) hx hb dX9_sayingYes_24 hl (by decide) rfl (fun ls hl => ?_)
        refine tb_aload hx hb dX9_sayingYes_26 (lv_at hl 0 rfl) ?_
        replace h := oc_d h
        obtain ⟨a6, ea6, h⟩ := h
        subst ea6
        have la6 := ho5 _ rfl
        refine gtX9_55 hx hb hts hown hK hW la6 dX9_sayingYes_28 ?_
        refine lv_iconst (v := (3 : Int32)) hx hb dX9_sayingYes_31 (by decide) ?_
        refine lv_icmp_ne (tgt := 51) hx hb dX9_sayingYes_32 (by decide) (fun c7 => ?_) (fun c7 => ?_)
        · replace h := sh_f c7 h
          obtain ⟨v8, ev8⟩ : ∃ y : Int32, y = i3 + (1 : Int32) := ⟨_, rfl⟩
          replace h := nm_a ev8 h
          refine lv_iinc (v := v8) (lv' := [(3, .int v8), (4, .ref (ad 8 a6)), (0, .ref (ad 9 0)), (1, .long j2)]) hx hb dX9_sayingYes_51 hl (k := 3) rfl (by rw [ev8]; rfl) (by decide) rfl (fun ls hl => ?_)
          refine lv_goto (tgt := 4) hx hb dX9_sayingYes_54 (by decide) ?_
          exact ih1 j2 v8 _ _ _ hW hS (lv_sub hl [2, 3, 0] rfl) h
        · replace h := sh_t c7 h
          refine lv_aload_n hx hb dX9_sayingYes_35 rfl (lv_at hl 1 rfl) ?_
          refine lv_aload hx hb dX9_sayingYes_36 (lv_at hl 0 rfl) ?_
          replace h := bd_a h
          obtain ⟨b9, hcb9, h⟩ := h
          refine tb_cVZ hZk hx hb hml hown hts hK hZ hW hS [.ref (ad 8 a6)] (mX9_isYes (l := l) hZk (some a6) M0 (fun z hz => Option.some.inj hz ▸ la6) b9 hcb9) pmX9_isYes tw683 (Wd.recv hK hW (t := 9) (by decide) cz9 (C := RX9) (T := TX9) (N := 4) rfl) ⟨Nat.le_of_ble_eq_true rfl, Nat.le_of_ble_eq_true rfl⟩ rfl hl.1 (Nat.le_of_ble_eq_true rfl) ⟨Nat.le_refl _, Nat.le_refl _⟩ rfl dX9_sayingYes_38 (fun H locs hW hS hzz => ?_)
          have hzb9 := hzz
          refine lv_if_eq (tgt := 51) hx hb dX9_sayingYes_41 (by decide) (fun c10 => ?_) (fun c10 => ?_)
          · replace h := sh_t c10 h
            obtain ⟨v11, ev11⟩ : ∃ y : Int32, y = i3 + (1 : Int32) := ⟨_, rfl⟩
            replace h := nm_a ev11 h
            refine lv_iinc (v := v11) (lv' := [(3, .int v11), (4, .ref (ad 8 a6)), (0, .ref (ad 9 0)), (1, .long j2)]) hx hb dX9_sayingYes_51 hl (k := 3) rfl (by rw [ev11]; rfl) (by decide) rfl (fun ls hl => ?_)
            refine lv_goto (tgt := 4) hx hb dX9_sayingYes_54 (by decide) ?_
            exact ih1 j2 v11 _ _ _ hW hS (lv_sub hl [2, 3, 0] rfl) h
          · replace h := sh_f c10 h
            refine lv_lload_n hx hb dX9_sayingYes_44 rfl (lv_at hl 2 rfl) ?_
            refine lv_iload_n hx hb dX9_sayingYes_45 rfl (lv_at hl 3 rfl) ?_
            refine tb_cNL hZk hx hb hml hown hts hK hZ hW hS [.int i3] (mX11_bit (l := l) hZk i3 M0 (fX11_bit i3) rfl) pmX11_bit (hZ.2.2.2.2.2.1 9 _ rfl) ⟨Nat.le_of_ble_eq_true rfl, Nat.le_of_ble_eq_true rfl⟩ rfl hl.1 (Nat.le_of_ble_eq_true rfl) ⟨Nat.le_refl _, Nat.le_refl _⟩ rfl dX9_sayingYes_46 (fun H locs hW hS => ?_)
            refine lv_lor hx hb dX9_sayingYes_49 ?_
            refine lv_topl (fun v12 ev12 => ?_)
            replace h := nm_a ev12 h
            refine lv_lstore_n (lv' := [(1, .long v12), (4, .ref (ad 8 a6)), (0, .ref (ad 9 0)), (3, .int i3)]) hx hb dX9_sayingYes_50 rfl hl (by decide) rfl (fun ls hl => ?_)
            obtain ⟨v13, ev13⟩ : ∃ y : Int32, y = i3 + (1 : Int32) := ⟨_, rfl⟩
            replace h := nm_a ev13 h
            refine lv_iinc (v := v13) (lv' := [(3, .int v13), (1, .long v12), (4, .ref (ad 8 a6)), (0, .ref (ad 9 0))]) hx hb dX9_sayingYes_51 hl (k := 3) rfl (by rw [ev13]; rfl) (by decide) rfl (fun ls hl => ?_)
            refine lv_goto (tgt := 4) hx hb dX9_sayingYes_54 (by decide) ?_
            exact ih1 v12 v13 _ _ _ hW hS (lv_sub hl [3, 1, 0] rfl) h
  exact L1 FU (0 : Int64) (0 : Int32) _ _ _ hW hS (lv_sub hl [2, 1, 0] rfl) h
def fX9_saysWith (x1 : Option Nat) (x2 : Int64) (M0 : Mem) : Option (Int32 × Mem) :=
  oc x1 none fun a1 => bE (fX9_work x2 (0 : Int64) ((mgL M0 815 a1 0) ||| (fX11_bit (mgI M0 800 a1 0))) M0) fun u2 M3 => bd (fX9_isYes (some a1) M3) fun b4 => some (b4, M3)
set_option maxHeartbeats 4000000 in
set_option maxRecDepth 100000 in
theorem mX9_saysWith {l : Launch} {D : va_G} {cy : Nat → ClassId} {A : Nat → Prop} {K : KC} {nS nL : Nat} {ad : Nat → Nat → Nat} (hZk : ZOK A (ZC A K)) (x1 : Option Nat) (x2 : Int64) (M0 : Mem) (hx1 : ∀ z, x1 = some z → z < (cnC nS nL) 8) (r : Int32) (M' : Mem) (h : fX9_saysWith x1 x2 M0 = some (r, M')) : Met l yX9_saysWith (wt yX9_saysWith cX9_saysWith 4 (some .boolean)) (rm 3 97) (CPre D cy A (ZC A K) (cnC nS nL) ad M0 [.ref (ad 9 0), rv (ad 8) x1, .long x2]) (QZ D cy A (cnC nS nL) ad r M') 0 0 A := by
  refine tb_start [.ref (ad 9 0), rv (ad 8) x1, .long x2] [(0, .ref (ad 9 0)), (1, rv (ad 8) x1), (2, .long x2)] RX9 rfl (by decide +kernel) (by simp [lg_sl, List.flatMap_cons, rv_cat, cat_r, cat_i, cat_l]) (by simp [lv_args, rv_cat, cat_r, cat_i, cat_l]) (fun p e s m args below meth c hx hb hr hml hown hts hlk hW hK hZ ls hl => ?_)
  have hS : va_S A s.heap s.heap [] := va_S.rf
  unfold fX9_saysWith at h
  refine lv_aload_n hx hb dX9_saysWith_0 rfl (lv_at hl 0 rfl) ?_
  refine lv_lload_n hx hb dX9_saysWith_1 rfl (lv_at hl 2 rfl) ?_
  refine lv_lconst (v := (0 : Int64)) hx hb dX9_saysWith_2 (by decide) ?_
  refine tb_aload_n hx hb dX9_saysWith_3 rfl (lv_at hl 1 rfl) ?_
  replace h := oc_d h
  obtain ⟨a1, ea1, h⟩ := h
  subst ea1
  have la1 := hx1 _ rfl
  refine gtX9_113 hx hb hts hown hK hW la1 dX9_saysWith_4 ?_
  refine lv_aload_n hx hb dX9_saysWith_7 rfl (lv_at hl 1 rfl) ?_
  refine gtX9_58 hx hb hts hown hK hW la1 dX9_saysWith_8 ?_
  refine tb_cNL hZk hx hb hml hown hts hK hZ hW hS [.int (mgI M0 800 a1 0)] (mX11_bit (l := l) hZk (mgI M0 800 a1 0) M0 (fX11_bit (mgI M0 800 a1 0)) rfl) pmX11_bit (hZ.2.2.2.2.2.1 9 _ rfl) ⟨Nat.le_of_ble_eq_true rfl, Nat.le_of_ble_eq_true rfl⟩ rfl hl.1 (Nat.le_of_ble_eq_true rfl) ⟨Nat.le_refl _, Nat.le_refl _⟩ rfl dX9_saysWith_11 (fun H locs hW hS => ?_)
  refine lv_lor hx hb dX9_saysWith_14 ?_
  replace h := bE_a h
  obtain ⟨u2, M3, hcu2, h⟩ := h
  refine tb_cVV hZk hx hb hml hown hts hK hZ hW hS [.long x2, .long (0 : Int64), .long ((mgL M0 815 a1 0) ||| (fX11_bit (mgI M0 800 a1 0)))] (mX9_work (l := l) hZk x2 (0 : Int64) ((mgL M0 815 a1 0) ||| (fX11_bit (mgI M0 800 a1 0))) M0 u2 M3 hcu2) pmX9_work tw682 (Wd.recv hK hW (t := 9) (by decide) cz9 (C := RX9) (T := TX9) (N := 4) rfl) ⟨Nat.le_of_ble_eq_true rfl, Nat.le_of_ble_eq_true rfl⟩ rfl hl.1 (Nat.le_of_ble_eq_true rfl) ⟨Nat.le_refl _, Nat.le_refl _⟩ rfl dX9_saysWith_15 (fun H locs hW hS => ?_)
  refine lv_aload_n hx hb dX9_saysWith_18 rfl (lv_at hl 0 rfl) ?_
  refine lv_aload_n hx hb dX9_saysWith_19 rfl (lv_at hl 1 rfl) ?_
  replace h := bd_a h
  obtain ⟨b4, hcb4, h⟩ := h
  refine tb_cVZ hZk hx hb hml hown hts hK hZ hW hS [.ref (ad 8 a1)] (mX9_isYes (l := l) hZk (some a1) M3 (fun z hz => Option.some.inj hz ▸ la1) b4 hcb4) pmX9_isYes tw683 (Wd.recv hK hW (t := 9) (by decide) cz9 (C := RX9) (T := TX9) (N := 4) rfl) ⟨Nat.le_of_ble_eq_true rfl, Nat.le_of_ble_eq_true rfl⟩ rfl hl.1 (Nat.le_of_ble_eq_true rfl) ⟨Nat.le_refl _, Nat.le_refl _⟩ rfl dX9_saysWith_20 (fun H locs hW hS hzz => ?_)
  have hzb4 := hzz
  exact tb_zretE h hx hb hr hS hW hlk hzb4 dX9_saysWith_23
def fX9_gatherFirsts_b4 (x1 : Option Nat) (k1 : Int32 → Int32 → Mem → Option (Int32 × Mem)) (i2 : Int32) (i3 : Int32) (M4 : Mem) : Option (Int32 × Mem) :=
  oc x1 none fun a5 => if (mgI M4 800 a5 0) ≤ i3 then (some (i2, M4)) else (if (8 : Int32) ≤ i2 then (some (i2, M4)) else (ix i3 64 <| nm (mgR M4 3200 0 i3.toNatClampNeg) fun o8 => oc o8 none fun a9 => if (mgI M4 801 a9 0) = (1 : Int32) then (if 0 ≤ (mgI M4 807 a9 0) then (nm (i3 + (1 : Int32)) fun v13 => k1 i2 v13 M4) else (nm (fX11_isIn (mgL M4 815 a5 0) i3) fun b14 => if b14 = 0 then (nm (i3 + (1 : Int32)) fun v16 => k1 i2 v16 M4) else (ix i2 8 <| nm (msI M4 4300 0 i2.toNatClampNeg i3) fun M17 => nm (i2 + (1 : Int32)) fun v18 => nm (i3 + (1 : Int32)) fun v19 => k1 v18 v19 M17))) else (nm (i3 + (1 : Int32)) fun v11 => k1 i2 v11 M4)))
def fX9_gatherFirsts_l4 (x1 : Option Nat) : Nat → Int32 → Int32 → Mem → Option (Int32 × Mem)
  | 0, _, _, _ => none
  | n + 1, i2, i3, M4 => fX9_gatherFirsts_b4 x1 (fX9_gatherFirsts_l4 x1 n) i2 i3 M4
def fX9_gatherFirsts (x1 : Option Nat) (M0 : Mem) : Option (Int32 × Mem) :=
  fX9_gatherFirsts_l4 x1 FU (0 : Int32) (0 : Int32) M0
set_option maxHeartbeats 4000000 in
set_option maxRecDepth 100000 in
theorem mX9_gatherFirsts {l : Launch} {D : va_G} {cy : Nat → ClassId} {A : Nat → Prop} {K : KC} {nS nL : Nat} {ad : Nat → Nat → Nat} (hZk : ZOK A (ZC A K)) (x1 : Option Nat) (M0 : Mem) (hx1 : ∀ z, x1 = some z → z < (cnC nS nL) 8) (r : Int32) (M' : Mem) (h : fX9_gatherFirsts x1 M0 = some (r, M')) : Met l yX9_gatherFirsts (wt yX9_gatherFirsts cX9_gatherFirsts 5 (some .int)) (rm 1 22) (CPre D cy A (ZC A K) (cnC nS nL) ad M0 [.ref (ad 9 0), rv (ad 8) x1]) (QI D cy A (cnC nS nL) ad r M') 0 0 A := by
  refine tb_start [.ref (ad 9 0), rv (ad 8) x1] [(0, .ref (ad 9 0)), (1, rv (ad 8) x1)] RX9 rfl (by decide +kernel) (by simp [lg_sl, List.flatMap_cons, rv_cat, cat_r, cat_i, cat_l]) (by simp [lv_args, rv_cat, cat_r, cat_i, cat_l]) (fun p e s m args below meth c hx hb hr hml hown hts hlk hW hK hZ ls hl => ?_)
  have hS : va_S A s.heap s.heap [] := va_S.rf
  unfold fX9_gatherFirsts at h
  refine lv_iconst (v := (0 : Int32)) hx hb dX9_gatherFirsts_0 (by decide) ?_
  refine lv_istore_n (lv' := [(2, .int (0 : Int32)), (0, .ref (ad 9 0)), (1, rv (ad 8) x1)]) hx hb dX9_gatherFirsts_1 rfl hl (by decide) (by simp [List.filter, rv_cat]) (fun ls hl => ?_)
  refine lv_iconst (v := (0 : Int32)) hx hb dX9_gatherFirsts_2 (by decide) ?_
  refine lv_istore_n (lv' := [(3, .int (0 : Int32)), (2, .int (0 : Int32)), (0, .ref (ad 9 0)), (1, rv (ad 8) x1)]) hx hb dX9_gatherFirsts_3 rfl hl (by decide) rfl (fun ls hl => ?_)
  have L1 : ∀ (n1 : Nat) (i2 : Int32) (i3 : Int32) (M4 : Mem) (H : Heap) (locs : List Loc) (ls : Array Slot), Wd D cy A (cnC nS nL) ad M4 H → va_S A s.heap H locs → lv_has ls 5 [(0, .ref (ad 9 0)), (1, rv (ad 8) x1), (2, .int i2), (3, .int i3)] → fX9_gatherFirsts_l4 x1 n1 i2 i3 M4 = some (r, M') → W p l e (rm 1 22) s m args below meth c H locs 0 0 (MQ below (QI D cy A (cnC nS nL) ad r M') args s 0 0 A) (F0 m 4 ls []) := by
    intro n1
    induction n1 with
    | zero => intro i2 i3 M4 H locs ls hW hS hl h; cases h
    | succ n1 ih1 =>
      intro i2 i3 M4 H locs ls hW hS hl h
      unfold fX9_gatherFirsts_l4 fX9_gatherFirsts_b4 at h
      refine lv_iload_n hx hb dX9_gatherFirsts_4 rfl (lv_at hl 3 rfl) ?_
      refine tb_aload_n hx hb dX9_gatherFirsts_5 rfl (lv_at hl 1 rfl) ?_
      replace h := oc_d h
      obtain ⟨a5, ea5, h⟩ := h
      subst ea5
      have la5 := hx1 _ rfl
      refine gtX9_58 hx hb hts hown hK hW la5 dX9_gatherFirsts_6 ?_
      refine lv_icmp_ge (tgt := 73) hx hb dX9_gatherFirsts_9 (by decide) (fun c6 => ?_) (fun c6 => ?_)
      · replace h := sh_t c6 h
        refine lv_iload_n hx hb dX9_gatherFirsts_73 rfl (lv_at hl 2 rfl) ?_
        exact tb_iretE h hx hb hr hS hW hlk dX9_gatherFirsts_74
      · replace h := sh_f c6 h
        refine lv_iload_n hx hb dX9_gatherFirsts_12 rfl (lv_at hl 2 rfl) ?_
        refine lv_bipush (v := (8 : Int32)) hx hb dX9_gatherFirsts_13 (by decide) ?_
        refine lv_icmp_ge (tgt := 73) hx hb dX9_gatherFirsts_15 (by decide) (fun c7 => ?_) (fun c7 => ?_)
        · replace h := sh_t c7 h
          refine lv_iload_n hx hb dX9_gatherFirsts_73 rfl (lv_at hl 2 rfl) ?_
          exact tb_iretE h hx hb hr hS hW hlk dX9_gatherFirsts_74
        · replace h := sh_f c7 h
          refine lv_aload_n hx hb dX9_gatherFirsts_18 rfl (lv_at hl 0 rfl) ?_
          refine gtX9_21 hx hb hts hown hK hW cz9 dX9_gatherFirsts_19 ?_
          refine gtX9_35 hx hb hts hown hK hW cz5 dX9_gatherFirsts_22 ?_
          refine lv_iload_n hx hb dX9_gatherFirsts_25 rfl (lv_at hl 3 rfl) ?_
          replace h := ix_a h
          obtain ⟨hj, h⟩ := h
          refine al32 hx hb hK hW cz32 hj dX9_gatherFirsts_26 (fun o8 eo8 ho8 => ?_)
          replace h := nm_a eo8 h
          refine tb_astore (lv' := [(4, rv (ad 8) o8), (0, .ref (ad 9 0)), (1, .ref (ad 8 a5)), (2, .int i2), (3, .int i3)]) hx hb dX9_gatherFirsts_27 hl (by decide) rfl (fun ls hl => ?_)
          refine tb_aload hx hb dX9_gatherFirsts_29 (lv_at hl 0 rfl) ?_
          replace h := oc_d h
          obtain ⟨a9, ea9, h⟩ := h
          subst ea9
          have la9 := ho8 _ rfl
          refine gtX9_55 hx hb hts hown hK hW la9 dX9_gatherFirsts_31 ?_
          refine lv_iconst (v := (1 : Int32)) hx hb dX9_gatherFirsts_34 (by decide) ?_
          refine lv_icmp_ne (tgt := 67) hx hb dX9_gatherFirsts_35 (by decide) (fun c10 => ?_) (fun c10 => ?_)
          · replace h := sh_f c10 h
            obtain ⟨v11, ev11⟩ : ∃ y : Int32, y = i3 + (1 : Int32) := ⟨_, rfl⟩
            replace h := nm_a ev11 h
            refine lv_iinc (v := v11) (lv' := [(3, .int v11), (4, .ref (ad 8 a9)), (0, .ref (ad 9 0)), (1, .ref (ad 8 a5)), (2, .int i2)]) hx hb dX9_gatherFirsts_67 hl (k := 4) rfl (by rw [ev11]; rfl) (by decide) rfl (fun ls hl => ?_)
            refine lv_goto (tgt := 4) hx hb dX9_gatherFirsts_70 (by decide) ?_
            exact ih1 i2 v11 M4 _ _ _ hW hS (lv_sub hl [2, 3, 4, 0] rfl) h
          · replace h := sh_t c10 h
            refine lv_aload hx hb dX9_gatherFirsts_38 (lv_at hl 0 rfl) ?_
            refine gtX9_139 hx hb hts hown hK hW la9 dX9_gatherFirsts_40 ?_
            refine lv_if_ge (tgt := 67) hx hb dX9_gatherFirsts_43 (by decide) (fun c12 => ?_) (fun c12 => ?_)
            · replace h := sh_t c12 h
              obtain ⟨v13, ev13⟩ : ∃ y : Int32, y = i3 + (1 : Int32) := ⟨_, rfl⟩
              replace h := nm_a ev13 h
              refine lv_iinc (v := v13) (lv' := [(3, .int v13), (4, .ref (ad 8 a9)), (0, .ref (ad 9 0)), (1, .ref (ad 8 a5)), (2, .int i2)]) hx hb dX9_gatherFirsts_67 hl (k := 4) rfl (by rw [ev13]; rfl) (by decide) rfl (fun ls hl => ?_)
              refine lv_goto (tgt := 4) hx hb dX9_gatherFirsts_70 (by decide) ?_
              exact ih1 i2 v13 M4 _ _ _ hW hS (lv_sub hl [2, 3, 4, 0] rfl) h
            · replace h := sh_f c12 h
              refine lv_aload_n hx hb dX9_gatherFirsts_46 rfl (lv_at hl 2 rfl) ?_
              refine gtX9_113 hx hb hts hown hK hW la5 dX9_gatherFirsts_47 ?_
              refine lv_iload_n hx hb dX9_gatherFirsts_50 rfl (lv_at hl 4 rfl) ?_
              refine tb_cNZ hZk hx hb hml hown hts hK hZ hW hS [.long (mgL M4 815 a5 0), .int i3] (mX11_isIn (l := l) hZk (mgL M4 815 a5 0) i3 M4 (fX11_isIn (mgL M4 815 a5 0) i3) rfl) pmX11_isIn (hZ.2.2.2.2.2.1 8 _ rfl) ⟨Nat.le_of_ble_eq_true rfl, Nat.le_of_ble_eq_true rfl⟩ rfl hl.1 (Nat.le_of_ble_eq_true rfl) ⟨Nat.le_refl _, Nat.le_refl _⟩ rfl dX9_gatherFirsts_51 (fun H locs hW hS hzz => ?_)
              refine lv_topi (fun b14 eb14 => ?_)
              replace h := nm_a eb14 h
              have hzb14 : b14 = 0 ∨ b14 = 1 := by rw [eb14]; exact hzz
              refine lv_if_eq (tgt := 67) hx hb dX9_gatherFirsts_54 (by decide) (fun c15 => ?_) (fun c15 => ?_)
              · replace h := sh_t c15 h
                obtain ⟨v16, ev16⟩ : ∃ y : Int32, y = i3 + (1 : Int32) := ⟨_, rfl⟩
                replace h := nm_a ev16 h
                refine lv_iinc (v := v16) (lv' := [(3, .int v16), (4, .ref (ad 8 a9)), (0, .ref (ad 9 0)), (1, .ref (ad 8 a5)), (2, .int i2)]) hx hb dX9_gatherFirsts_67 hl (k := 4) rfl (by rw [ev16]; rfl) (by decide) rfl (fun ls hl => ?_)
                refine lv_goto (tgt := 4) hx hb dX9_gatherFirsts_70 (by decide) ?_
                exact ih1 i2 v16 M4 _ _ _ hW hS (lv_sub hl [2, 3, 4, 0] rfl) h
              · replace h := sh_f c15 h
                refine lv_aload_n hx hb dX9_gatherFirsts_57 rfl (lv_at hl 1 rfl) ?_
                refine gtX9_18 hx hb hts hown hK hW cz9 dX9_gatherFirsts_58 ?_
                refine lv_iload_n hx hb dX9_gatherFirsts_61 rfl (lv_at hl 3 rfl) ?_
                refine lv_iload_n hx hb dX9_gatherFirsts_62 rfl (lv_at hl 4 rfl) ?_
                replace h := ix_a h
                obtain ⟨hj, h⟩ := h
                refine as43 hx hb hK hW hS cz43 hj dX9_gatherFirsts_63 (fun H locs hW hS => ?_)
                obtain ⟨M17, eM17⟩ : ∃ y, y = msI M4 4300 0 i2.toNatClampNeg i3 := ⟨_, rfl⟩
                replace h := nm_a eM17 h
                rw [← eM17] at hW
                obtain ⟨v18, ev18⟩ : ∃ y : Int32, y = i2 + (1 : Int32) := ⟨_, rfl⟩
                replace h := nm_a ev18 h
                refine lv_iinc (v := v18) (lv' := [(2, .int v18), (4, .ref (ad 8 a9)), (0, .ref (ad 9 0)), (1, .ref (ad 8 a5)), (3, .int i3)]) hx hb dX9_gatherFirsts_64 hl (k := 3) rfl (by rw [ev18]; rfl) (by decide) rfl (fun ls hl => ?_)
                obtain ⟨v19, ev19⟩ : ∃ y : Int32, y = i3 + (1 : Int32) := ⟨_, rfl⟩
                replace h := nm_a ev19 h
                refine lv_iinc (v := v19) (lv' := [(3, .int v19), (2, .int v18), (4, .ref (ad 8 a9)), (0, .ref (ad 9 0)), (1, .ref (ad 8 a5))]) hx hb dX9_gatherFirsts_67 hl (k := 4) rfl (by rw [ev19]; rfl) (by decide) rfl (fun ls hl => ?_)
                refine lv_goto (tgt := 4) hx hb dX9_gatherFirsts_70 (by decide) ?_
                exact ih1 v18 v19 M17 _ _ _ hW hS (lv_sub hl [3, 4, 1, 0] rfl) h
  exact L1 FU (0 : Int32) (0 : Int32) M0 _ _ _ hW hS (lv_sub hl [2, 3, 1, 0] rfl) h
def fX9_asStones_b5 (x2 : Int32) (x1 : Int32) (M0 : Mem) (k1 : Int64 → Int32 → Option Int64) (j2 : Int64) (i3 : Int32) : Option Int64 :=
  if x2 ≤ i3 then (some j2) else (if (((x1.toUInt32 >>> (i3.toUInt32 &&& Int32.toUInt32 31)).toInt32) &&& (1 : Int32)) = 0 then (nm (i3 + (1 : Int32)) fun v6 => k1 j2 v6) else (ix i3 8 <| nm (j2 ||| (fX11_bit (mgI M0 4300 0 i3.toNatClampNeg))) fun v7 => nm (i3 + (1 : Int32)) fun v8 => k1 v7 v8))
def fX9_asStones_l5 (x2 : Int32) (x1 : Int32) (M0 : Mem) : Nat → Int64 → Int32 → Option Int64
  | 0, _, _ => none
  | n + 1, j2, i3 => fX9_asStones_b5 x2 x1 M0 (fX9_asStones_l5 x2 x1 M0 n) j2 i3
def fX9_asStones (x1 : Int32) (x2 : Int32) (M0 : Mem) : Option Int64 :=
  fX9_asStones_l5 x2 x1 M0 FU (0 : Int64) (0 : Int32)
set_option maxHeartbeats 4000000 in
set_option maxRecDepth 100000 in
theorem mX9_asStones {l : Launch} {D : va_G} {cy : Nat → ClassId} {A : Nat → Prop} {K : KC} {nS nL : Nat} {ad : Nat → Nat → Nat} (hZk : ZOK A (ZC A K)) (x1 : Int32) (x2 : Int32) (M0 : Mem) (r : Int64) (h : fX9_asStones x1 x2 M0 = some r) : Met l yX9_asStones (wt yX9_asStones cX9_asStones 6 (some .long)) (rm 1 20) (CPre D cy A (ZC A K) (cnC nS nL) ad M0 [.ref (ad 9 0), .int x1, .int x2]) (QL D cy A (cnC nS nL) ad r M0) 0 0 A := by
  refine tb_start [.ref (ad 9 0), .int x1, .int x2] [(0, .ref (ad 9 0)), (1, .int x1), (2, .int x2)] RX9 rfl (by decide +kernel) (Nat.le_of_ble_eq_true rfl) rfl (fun p e s m args below meth c hx hb hr hml hown hts hlk hW hK hZ ls hl => ?_)
  have hS : va_S A s.heap s.heap [] := va_S.rf
  unfold fX9_asStones at h
  refine lv_lconst (v := (0 : Int64)) hx hb dX9_asStones_0 (by decide) ?_
  refine lv_lstore_n (lv' := [(3, .long (0 : Int64)), (0, .ref (ad 9 0)), (1, .int x1), (2, .int x2)]) hx hb dX9_asStones_1 rfl hl (by decide) rfl (fun ls hl => ?_)
  refine lv_iconst (v := (0 : Int32)) hx hb dX9_asStones_2 (by decide) ?_
  refine lv_istore (lv' := [(5, .int (0 : Int32)), (3, .long (0 : Int64)), (0, .ref (ad 9 0)), (1, .int x1), (2, .int x2)]) hx hb dX9_asStones_3 hl (by decide) rfl (fun ls hl => ?_)
  have L1 : ∀ (n1 : Nat) (j2 : Int64) (i3 : Int32) (H : Heap) (locs : List Loc) (ls : Array Slot), Wd D cy A (cnC nS nL) ad M0 H → va_S A s.heap H locs → lv_has ls 6 [(0, .ref (ad 9 0)), (1, .int x1), (2, .int x2), (3, .long j2), (5, .int i3)] → fX9_asStones_l5 x2 x1 M0 n1 j2 i3 = some r → W p l e (rm 1 20) s m args below meth c H locs 0 0 (MQ below (QL D cy A (cnC nS nL) ad r M0) args s 0 0 A) (F0 m 5 ls []) := by
    intro n1
    induction n1 with
    | zero => intro j2 i3 H locs ls hW hS hl h; cases h
    | succ n1 ih1 =>
      intro j2 i3 H locs ls hW hS hl h
      unfold fX9_asStones_l5 fX9_asStones_b5 at h
      refine lv_iload hx hb dX9_asStones_5 (lv_at hl 4 rfl) ?_
      refine lv_iload_n hx hb dX9_asStones_7 rfl (lv_at hl 2 rfl) ?_
      refine lv_icmp_ge (tgt := 39) hx hb dX9_asStones_8 (by decide) (fun c4 => ?_) (fun c4 => ?_)
      · replace h := sh_t c4 h
        refine lv_lload_n hx hb dX9_asStones_39 rfl (lv_at hl 3 rfl) ?_
        exact tb_lretO h hx hb hr hS hW hlk dX9_asStones_40
      · replace h := sh_f c4 h
        refine lv_iload_n hx hb dX9_asStones_11 rfl (lv_at hl 1 rfl) ?_
        refine lv_iload hx hb dX9_asStones_12 (lv_at hl 4 rfl) ?_
        refine lv_iushr hx hb dX9_asStones_14 rfl ?_
        refine lv_iconst (v := (1 : Int32)) hx hb dX9_asStones_15 (by decide) ?_
        refine lv_iand hx hb dX9_asStones_16 ?_
        refine lv_if_eq (tgt := 33) hx hb dX9_asStones_17 (by decide) (fun c5 => ?_) (fun c5 => ?_)
        · replace h := sh_t c5 h
          obtain ⟨v6, ev6⟩ : ∃ y : Int32, y = i3 + (1 : Int32) := ⟨_, rfl⟩
          replace h := nm_a ev6 h
          refine lv_iinc (v := v6) (lv' := [(5, .int v6), (0, .ref (ad 9 0)), (1, .int x1), (2, .int x2), (3, .long j2)]) hx hb dX9_asStones_33 hl (k := 4) rfl (by rw [ev6]; rfl) (by decide) rfl (fun ls hl => ?_)
          refine lv_goto (tgt := 5) hx hb dX9_asStones_36 (by decide) ?_
          exact ih1 j2 v6 _ _ _ hW hS (lv_sub hl [1, 2, 3, 4, 0] rfl) h
        · replace h := sh_f c5 h
          refine lv_lload_n hx hb dX9_asStones_20 rfl (lv_at hl 3 rfl) ?_
          refine lv_aload_n hx hb dX9_asStones_21 rfl (lv_at hl 0 rfl) ?_
          refine gtX9_18 hx hb hts hown hK hW cz9 dX9_asStones_22 ?_
          refine lv_iload hx hb dX9_asStones_25 (lv_at hl 4 rfl) ?_
          replace h := ix_a h
          obtain ⟨hj, h⟩ := h
          refine al43 hx hb hK hW cz43 hj dX9_asStones_27 ?_
          refine tb_cNL hZk hx hb hml hown hts hK hZ hW hS [.int (mgI M0 4300 0 i3.toNatClampNeg)] (mX11_bit (l := l) hZk (mgI M0 4300 0 i3.toNatClampNeg) M0 (fX11_bit (mgI M0 4300 0 i3.toNatClampNeg)) rfl) pmX11_bit (hZ.2.2.2.2.2.1 9 _ rfl) ⟨Nat.le_of_ble_eq_true rfl, Nat.le_of_ble_eq_true rfl⟩ rfl hl.1 (Nat.le_of_ble_eq_true rfl) ⟨Nat.le_refl _, Nat.le_refl _⟩ rfl dX9_asStones_28 (fun H locs hW hS => ?_)
          refine lv_lor hx hb dX9_asStones_31 ?_
          refine lv_topl (fun v7 ev7 => ?_)
          replace h := nm_a ev7 h
          refine lv_lstore_n (lv' := [(3, .long v7), (0, .ref (ad 9 0)), (1, .int x1), (2, .int x2), (5, .int i3)]) hx hb dX9_asStones_32 rfl hl (by decide) rfl (fun ls hl => ?_)
          obtain ⟨v8, ev8⟩ : ∃ y : Int32, y = i3 + (1 : Int32) := ⟨_, rfl⟩
          replace h := nm_a ev8 h
          refine lv_iinc (v := v8) (lv' := [(5, .int v8), (3, .long v7), (0, .ref (ad 9 0)), (1, .int x1), (2, .int x2)]) hx hb dX9_asStones_33 hl (k := 4) rfl (by rw [ev8]; rfl) (by decide) rfl (fun ls hl => ?_)
          refine lv_goto (tgt := 5) hx hb dX9_asStones_36 (by decide) ?_
          exact ih1 v7 v8 _ _ _ hW hS (lv_sub hl [2, 3, 4, 1, 0] rfl) h
  exact L1 FU (0 : Int64) (0 : Int32) _ _ _ hW hS (lv_sub hl [2, 3, 4, 1, 0] rfl) h
def fX9_fewestThatTurn_b25 (b1 : Int32) (i6 : Int32) (k5 : Int32 → Mem → Option (Int64 × Mem)) (x1 : Option Nat) (b3 : Int32) (k9 : Int32 → Mem → Option (Int64 × Mem)) (i10 : Int32) (M11 : Mem) : Option (Int64 × Mem) :=
  if ((1 : Int32) <<< (b1 &&& 31)) ≤ i10 then (nm (i6 + (1 : Int32)) fun v13 => k5 v13 M11) else (if (fJ6_bitCount_0f7a4 i10) = i6 then (bd (fX9_asStones i10 b1 M11) fun g16 => bE (fX9_saysWith x1 g16 M11) fun b17 M18 => if b17 = b3 then (nm (i10 + (1 : Int32)) fun v20 => k9 v20 M18) else (some (g16, M18))) else (nm (i10 + (1 : Int32)) fun v15 => k9 v15 M11))
def fX9_fewestThatTurn_l25 (b1 : Int32) (i6 : Int32) (k5 : Int32 → Mem → Option (Int64 × Mem)) (x1 : Option Nat) (b3 : Int32) : Nat → Int32 → Mem → Option (Int64 × Mem)
  | 0, _, _ => none
  | n + 1, i10, M11 => fX9_fewestThatTurn_b25 b1 i6 k5 x1 b3 (fX9_fewestThatTurn_l25 b1 i6 k5 x1 b3 n) i10 M11
def fX9_fewestThatTurn_b16 (b1 : Int32) (x1 : Option Nat) (b3 : Int32) (k5 : Int32 → Mem → Option (Int64 × Mem)) (i6 : Int32) (M7 : Mem) : Option (Int64 × Mem) :=
  if b1 < i6 then (some ((0 : Int64), M7)) else (fX9_fewestThatTurn_l25 b1 i6 k5 x1 b3 FU (1 : Int32) M7)
def fX9_fewestThatTurn_l16 (b1 : Int32) (x1 : Option Nat) (b3 : Int32) : Nat → Int32 → Mem → Option (Int64 × Mem)
  | 0, _, _ => none
  | n + 1, i6, M7 => fX9_fewestThatTurn_b16 b1 x1 b3 (fX9_fewestThatTurn_l16 b1 x1 b3 n) i6 M7
def fX9_fewestThatTurn (x1 : Option Nat) (M0 : Mem) : Option (Int64 × Mem) :=
  bE (fX9_gatherFirsts x1 M0) fun b1 M2 => bE (fX9_saysWith x1 (0 : Int64) M2) fun b3 M4 => fX9_fewestThatTurn_l16 b1 x1 b3 FU (1 : Int32) M4
set_option maxHeartbeats 4000000 in
set_option maxRecDepth 100000 in
theorem mX9_fewestThatTurn {l : Launch} {D : va_G} {cy : Nat → ClassId} {A : Nat → Prop} {K : KC} {nS nL : Nat} {ad : Nat → Nat → Nat} (hZk : ZOK A (ZC A K)) (x1 : Option Nat) (M0 : Mem) (hx1 : ∀ z, x1 = some z → z < (cnC nS nL) 8) (r : Int64) (M' : Mem) (h : fX9_fewestThatTurn x1 M0 = some (r, M')) : Met l yX9_fewestThatTurn (wt yX9_fewestThatTurn cX9_fewestThatTurn 8 (some .long)) (rm 4 120) (CPre D cy A (ZC A K) (cnC nS nL) ad M0 [.ref (ad 9 0), rv (ad 8) x1]) (QL D cy A (cnC nS nL) ad r M') 0 0 A := by
  refine tb_start [.ref (ad 9 0), rv (ad 8) x1] [(0, .ref (ad 9 0)), (1, rv (ad 8) x1)] RX9 rfl (by decide +kernel) (by simp [lg_sl, List.flatMap_cons, rv_cat, cat_r, cat_i, cat_l]) (by simp [lv_args, rv_cat, cat_r, cat_i, cat_l]) (fun p e s m args below meth c hx hb hr hml hown hts hlk hW hK hZ ls hl => ?_)
  have hS : va_S A s.heap s.heap [] := va_S.rf
  unfold fX9_fewestThatTurn at h
  refine lv_aload_n hx hb dX9_fewestThatTurn_0 rfl (lv_at hl 0 rfl) ?_
  refine tb_aload_n hx hb dX9_fewestThatTurn_1 rfl (lv_at hl 1 rfl) ?_
  replace h := bE_a h
  obtain ⟨b1, M2, hcb1, h⟩ := h
  refine tb_cVI hZk hx hb hml hown hts hK hZ hW hS [rv (ad 8) x1] (mX9_gatherFirsts (l := l) hZk x1 M0 hx1 b1 M2 hcb1) pmX9_gatherFirsts tw757 (Wd.recv hK hW (t := 9) (by decide) cz9 (C := RX9) (T := TX9) (N := 4) rfl) ⟨Nat.le_of_ble_eq_true rfl, Nat.le_of_ble_eq_true rfl⟩ rfl hl.1 (Nat.le_of_ble_eq_true rfl) ⟨Nat.le_refl _, Nat.le_refl _⟩ rfl dX9_fewestThatTurn_2 (fun H locs hW hS => ?_)
  refine lv_istore_n (lv' := [(2, .int b1), (0, .ref (ad 9 0)), (1, rv (ad 8) x1)]) hx hb dX9_fewestThatTurn_5 rfl hl (by decide) (by simp [List.filter, rv_cat]) (fun ls hl => ?_)
  refine lv_aload_n hx hb dX9_fewestThatTurn_6 rfl (lv_at hl 1 rfl) ?_
  refine tb_aload_n hx hb dX9_fewestThatTurn_7 rfl (lv_at hl 2 rfl) ?_
  refine lv_lconst (v := (0 : Int64)) hx hb dX9_fewestThatTurn_8 (by decide) ?_
  replace h := bE_a h
  obtain ⟨b3, M4, hcb3, h⟩ := h
  refine tb_cVZ hZk hx hb hml hown hts hK hZ hW hS [rv (ad 8) x1, .long (0 : Int64)] (mX9_saysWith (l := l) hZk x1 (0 : Int64) M2 hx1 b3 M4 hcb3) pmX9_saysWith tw761 (Wd.recv hK hW (t := 9) (by decide) cz9 (C := RX9) (T := TX9) (N := 4) rfl) ⟨Nat.le_of_ble_eq_true rfl, Nat.le_of_ble_eq_true rfl⟩ rfl hl.1 (Nat.le_of_ble_eq_true rfl) ⟨Nat.le_refl _, Nat.le_refl _⟩ rfl dX9_fewestThatTurn_9 (fun H locs hW hS hzz => ?_)
  have hzb3 := hzz
  refine lv_istore_n (lv' := [(3, .int b3), (2, .int b1), (0, .ref (ad 9 0)), (1, rv (ad 8) x1)]) hx hb dX9_fewestThatTurn_12 rfl hl (by decide) rfl (fun ls hl => ?_)
  refine lv_iconst (v := (1 : Int32)) hx hb dX9_fewestThatTurn_13 (by decide) ?_
  refine lv_istore (lv' := [(4, .int (1 : Int32)), (3, .int b3), (2, .int b1), (0, .ref (ad 9 0)), (1, rv (ad 8) x1)]) hx hb dX9_fewestThatTurn_14 hl (by decide) rfl (fun ls hl => ?_)
  have L5 : ∀ (n5 : Nat) (i6 : Int32) (M7 : Mem) (H : Heap) (locs : List Loc) (ls : Array Slot), Wd D cy A (cnC nS nL) ad M7 H → va_S A s.heap H locs → lv_has ls 8 [(0, .ref (ad 9 0)), (1, rv (ad 8) x1), (2, .int b1), (3, .int b3), (4, .int i6)] → fX9_fewestThatTurn_l16 b1 x1 b3 n5 i6 M7 = some (r, M') → W p l e (rm 4 120) s m args below meth c H locs 0 0 (MQ below (QL D cy A (cnC nS nL) ad r M') args s 0 0 A) (F0 m 16 ls []) := by
    intro n5
    induction n5 with
    | zero => intro i6 M7 H locs ls hW hS hl h; cases h
    | succ n5 ih5 =>
      intro i6 M7 H locs ls hW hS hl h
      unfold fX9_fewestThatTurn_l16 fX9_fewestThatTurn_b16 at h
      refine lv_iload hx hb dX9_fewestThatTurn_16 (lv_at hl 4 rfl) ?_
      refine lv_iload_n hx hb dX9_fewestThatTurn_18 rfl (lv_at hl 2 rfl) ?_
      refine lv_icmp_gt (tgt := 78) hx hb dX9_fewestThatTurn_19 (by decide) (fun c8 => ?_) (fun c8 => ?_)
      · replace h := sh_t c8 h
        refine lv_lconst (v := (0 : Int64)) hx hb dX9_fewestThatTurn_78 (by decide) ?_
        exact tb_lretE h hx hb hr hS hW hlk dX9_fewestThatTurn_79
      · replace h := sh_f c8 h
        refine lv_iconst (v := (1 : Int32)) hx hb dX9_fewestThatTurn_22 (by decide) ?_
        refine lv_istore (lv' := [(5, .int (1 : Int32)), (0, .ref (ad 9 0)), (1, rv (ad 8) x1), (2, .int b1), (3, .int b3), (4, .int i6)]) hx hb dX9_fewestThatTurn_23 hl (by decide) rfl (fun ls hl => ?_)
        have L9 : ∀ (n9 : Nat) (i10 : Int32) (M11 : Mem) (H : Heap) (locs : List Loc) (ls : Array Slot), Wd D cy A (cnC nS nL) ad M11 H → va_S A s.heap H locs → lv_has ls 8 [(0, .ref (ad 9 0)), (1, rv (ad 8) x1), (2, .int b1), (3, .int b3), (4, .int i6), (5, .int i10)] → fX9_fewestThatTurn_l25 b1 i6 (fX9_fewestThatTurn_l16 b1 x1 b3 n5) x1 b3 n9 i10 M11 = some (r, M') → W p l e (rm 4 120) s m args below meth c H locs 0 0 (MQ below (QL D cy A (cnC nS nL) ad r M') args s 0 0 A) (F0 m 25 ls []) := by
          intro n9
          induction n9 with
          | zero => intro i10 M11 H locs ls hW hS hl h; cases h
          | succ n9 ih9 =>
            intro i10 M11 H locs ls hW hS hl h
            unfold fX9_fewestThatTurn_l25 fX9_fewestThatTurn_b25 at h
            refine lv_iload hx hb dX9_fewestThatTurn_25 (lv_at hl 5 rfl) ?_
            refine lv_iconst (v := (1 : Int32)) hx hb dX9_fewestThatTurn_27 (by decide) ?_
            refine lv_iload_n hx hb dX9_fewestThatTurn_28 rfl (lv_at hl 2 rfl) ?_
            refine lv_ishl hx hb dX9_fewestThatTurn_29 ?_
            refine lv_icmp_ge (tgt := 72) hx hb dX9_fewestThatTurn_30 (by decide) (fun c12 => ?_) (fun c12 => ?_)
            · replace h := sh_t c12 h
              obtain ⟨v13, ev13⟩ : ∃ y : Int32, y = i6 + (1 : Int32) := ⟨_, rfl⟩
              replace h := nm_a ev13 h
              refine lv_iinc (v := v13) (lv' := [(4, .int v13), (0, .ref (ad 9 0)), (1, rv (ad 8) x1), (2, .int b1), (3, .int b3), (5, .int i10)]) hx hb dX9_fewestThatTurn_72 hl (k := 4) rfl (by rw [ev13]; rfl) (by decide) rfl (fun ls hl => ?_)
              refine lv_goto (tgt := 16) hx hb dX9_fewestThatTurn_75 (by decide) ?_
              exact ih5 v13 M11 _ _ _ hW hS (lv_sub hl [1, 2, 3, 4, 0] rfl) h
            · replace h := sh_f c12 h
              refine lv_iload hx hb dX9_fewestThatTurn_33 (lv_at hl 5 rfl) ?_
              refine tb_cSI hZk hx hb hml hown hts hK hZ hW hS [.int i10] (mJ6_bitCount_0f7a4 (l := l) hZk i10 M11 (fJ6_bitCount_0f7a4 i10) rfl) pmJ6_bitCount_0f7a4 tw762 ⟨Nat.le_of_ble_eq_true rfl, Nat.le_of_ble_eq_true rfl⟩ rfl hl.1 (Nat.le_of_ble_eq_true rfl) ⟨Nat.le_refl _, Nat.le_refl _⟩ rfl dX9_fewestThatTurn_35 (fun H locs hW hS => ?_)
              refine lv_iload hx hb dX9_fewestThatTurn_38 (lv_at hl 4 rfl) ?_
              refine lv_icmp_ne (tgt := 66) hx hb dX9_fewestThatTurn_40 (by decide) (fun c14 => ?_) (fun c14 => ?_)
              · replace h := sh_f c14 h
                obtain ⟨v15, ev15⟩ : ∃ y : Int32, y = i10 + (1 : Int32) := ⟨_, rfl⟩
                replace h := nm_a ev15 h
                refine lv_iinc (v := v15) (lv' := [(5, .int v15), (0, .ref (ad 9 0)), (1, rv (ad 8) x1), (2, .int b1), (3, .int b3), (4, .int i6)]) hx hb dX9_fewestThatTurn_66 hl (k := 5) rfl (by rw [ev15]; rfl) (by decide) rfl (fun ls hl => ?_)
                refine lv_goto (tgt := 25) hx hb dX9_fewestThatTurn_69 (by decide) ?_
                exact ih9 v15 M11 _ _ _ hW hS (lv_sub hl [1, 2, 3, 4, 5, 0] rfl) h
              · replace h := sh_t c14 h
                refine lv_aload_n hx hb dX9_fewestThatTurn_43 rfl (lv_at hl 0 rfl) ?_
                refine lv_iload hx hb dX9_fewestThatTurn_44 (lv_at hl 5 rfl) ?_
                refine lv_iload_n hx hb dX9_fewestThatTurn_46 rfl (lv_at hl 2 rfl) ?_
                replace h := bd_a h
                obtain ⟨g16, hcg16, h⟩ := h
                refine tb_cVL hZk hx hb hml hown hts hK hZ hW hS [.int i10, .int b1] (mX9_asStones (l := l) hZk i10 b1 M11 g16 hcg16) pmX9_asStones tw768 (Wd.recv hK hW (t := 9) (by decide) cz9 (C := RX9) (T := TX9) (N := 4) rfl) ⟨Nat.le_of_ble_eq_true rfl, Nat.le_of_ble_eq_true rfl⟩ rfl hl.1 (Nat.le_of_ble_eq_true rfl) ⟨Nat.le_refl _, Nat.le_refl _⟩ rfl dX9_fewestThatTurn_47 (fun H locs hW hS => ?_)
                refine lv_lstore (lv' := [(6, .long g16), (0, .ref (ad 9 0)), (1, rv (ad 8) x1), (2, .int b1), (3, .int b3), (4, .int i6), (5, .int i10)]) hx hb dX9_fewestThatTurn_50 hl (by decide) rfl (fun ls hl => ?_)
                refine lv_aload_n hx hb dX9_fewestThatTurn_52 rfl (lv_at hl 1 rfl) ?_
                refine tb_aload_n hx hb dX9_fewestThatTurn_53 rfl (lv_at hl 2 rfl) ?_
                refine lv_lload hx hb dX9_fewestThatTurn_54 (lv_at hl 0 rfl) ?_
                replace h := bE_a h
                obtain ⟨b17, M18, hcb17, h⟩ := h
                refine tb_cVZ hZk hx hb hml hown hts hK hZ hW hS [rv (ad 8) x1, .long g16] (mX9_saysWith (l := l) hZk x1 g16 M11 hx1 b17 M18 hcb17) pmX9_saysWith tw761 (Wd.recv hK hW (t := 9) (by decide) cz9 (C := RX9) (T := TX9) (N := 4) rfl) ⟨Nat.le_of_ble_eq_true rfl, Nat.le_of_ble_eq_true rfl⟩ rfl hl.1 (Nat.le_of_ble_eq_true rfl) ⟨Nat.le_refl _, Nat.le_refl _⟩ rfl dX9_fewestThatTurn_56 (fun H locs hW hS hzz => ?_)
                have hzb17 := hzz
                refine lv_iload_n hx hb dX9_fewestThatTurn_59 rfl (lv_at hl 4 rfl) ?_
                refine lv_icmp_eq (tgt := 66) hx hb dX9_fewestThatTurn_60 (by decide) (fun c19 => ?_) (fun c19 => ?_)
                · replace h := sh_t c19 h
                  obtain ⟨v20, ev20⟩ : ∃ y : Int32, y = i10 + (1 : Int32) := ⟨_, rfl⟩
                  replace h := nm_a ev20 h
                  refine lv_iinc (v := v20) (lv' := [(5, .int v20), (6, .long g16), (0, .ref (ad 9 0)), (1, rv (ad 8) x1), (2, .int b1), (3, .int b3), (4, .int i6)]) hx hb dX9_fewestThatTurn_66 hl (k := 6) rfl (by rw [ev20]; rfl) (by decide) rfl (fun ls hl => ?_)
                  refine lv_goto (tgt := 25) hx hb dX9_fewestThatTurn_69 (by decide) ?_
                  exact ih9 v20 M18 _ _ _ hW hS (lv_sub hl [2, 3, 4, 5, 6, 0] rfl) h
                · replace h := sh_f c19 h
                  refine lv_lload hx hb dX9_fewestThatTurn_63 (lv_at hl 0 rfl) ?_
                  exact tb_lretE h hx hb hr hS hW hlk dX9_fewestThatTurn_65
        exact L9 FU (1 : Int32) M7 _ _ _ hW hS (lv_sub hl [1, 2, 3, 4, 5, 0] rfl) h
  exact L5 FU (1 : Int32) M4 _ _ _ hW hS (lv_sub hl [3, 4, 2, 1, 0] rfl) h
def fX9_monthsAmiss_b10 (x1 : Option Nat) (M0 : Mem) (k2 : Int32 → Int32 → Option Int32) (i3 : Int32) (i4 : Int32) : Option Int32 :=
  oc x1 none fun a5 => if (mgI M0 800 a5 0) ≤ i4 then (some ((mgI M0 504 0 0) - (if i3 < (mgI M0 802 a5 0) then (mgI M0 802 a5 0) else i3))) else (nm (fX11_isIn ((mgL M0 815 a5 0) &&& (mgL M0 505 0 0)) i4) fun b7 => if b7 = 0 then (nm (i4 + (1 : Int32)) fun v9 => k2 i3 v9) else (ix i4 64 <| nm (mgR M0 3200 0 i4.toNatClampNeg) fun o10 => oc o10 none fun a11 => nm (if (mgI M0 807 a11 0) < i3 then (mgI M0 807 a11 0) else i3) fun v12 => nm (i4 + (1 : Int32)) fun v13 => k2 v12 v13))
def fX9_monthsAmiss_l10 (x1 : Option Nat) (M0 : Mem) : Nat → Int32 → Int32 → Option Int32
  | 0, _, _ => none
  | n + 1, i3, i4 => fX9_monthsAmiss_b10 x1 M0 (fX9_monthsAmiss_l10 x1 M0 n) i3 i4
def fX9_monthsAmiss (x1 : Option Nat) (M0 : Mem) : Option Int32 :=
  nm (mgI M0 504 0 0) fun v1 => fX9_monthsAmiss_l10 x1 M0 FU v1 (0 : Int32)
set_option maxHeartbeats 4000000 in
set_option maxRecDepth 100000 in
theorem mX9_monthsAmiss {l : Launch} {D : va_G} {cy : Nat → ClassId} {A : Nat → Prop} {K : KC} {nS nL : Nat} {ad : Nat → Nat → Nat} (hZk : ZOK A (ZC A K)) (x1 : Option Nat) (M0 : Mem) (hx1 : ∀ z, x1 = some z → z < (cnC nS nL) 8) (r : Int32) (h : fX9_monthsAmiss x1 M0 = some r) : Met l yX9_monthsAmiss (wt yX9_monthsAmiss cX9_monthsAmiss 4 (some .int)) (rm 1 40) (CPre D cy A (ZC A K) (cnC nS nL) ad M0 [.ref (ad 9 0), rv (ad 8) x1]) (QI D cy A (cnC nS nL) ad r M0) 0 0 A := by
  refine tb_start [.ref (ad 9 0), rv (ad 8) x1] [(0, .ref (ad 9 0)), (1, rv (ad 8) x1)] RX9 rfl (by decide +kernel) (by simp [lg_sl, List.flatMap_cons, rv_cat, cat_r, cat_i, cat_l]) (by simp [lv_args, rv_cat, cat_r, cat_i, cat_l]) (fun p e s m args below meth c hx hb hr hml hown hts hlk hW hK hZ ls hl => ?_)
  have hS : va_S A s.heap s.heap [] := va_S.rf
  unfold fX9_monthsAmiss at h
  refine lv_aload_n hx hb dX9_monthsAmiss_0 rfl (lv_at hl 0 rfl) ?_
  refine gtX9_21 hx hb hts hown hK hW cz9 dX9_monthsAmiss_1 ?_
  refine gtX9_151 hx hb hts hown hK hW cz5 dX9_monthsAmiss_4 ?_
  refine lv_topi (fun v1 ev1 => ?_)
  replace h := nm_a ev1 h
  refine lv_istore_n (lv' := [(2, .int v1), (0, .ref (ad 9 0)), (1, rv (ad 8) x1)]) hx hb dX9_monthsAmiss_7 rfl hl (by decide) (by simp [List.filter, rv_cat]) (fun ls hl => ?_)
  refine lv_iconst (v := (0 : Int32)) hx hb dX9_monthsAmiss_8 (by decide) ?_
  refine lv_istore_n (lv' := [(3, .int (0 : Int32)), (2, .int v1), (0, .ref (ad 9 0)), (1, rv (ad 8) x1)]) hx hb dX9_monthsAmiss_9 rfl hl (by decide) rfl (fun ls hl => ?_)
  have L2 : ∀ (n2 : Nat) (i3 : Int32) (i4 : Int32) (H : Heap) (locs : List Loc) (ls : Array Slot), Wd D cy A (cnC nS nL) ad M0 H → va_S A s.heap H locs → lv_has ls 4 [(0, .ref (ad 9 0)), (1, rv (ad 8) x1), (2, .int i3), (3, .int i4)] → fX9_monthsAmiss_l10 x1 M0 n2 i3 i4 = some r → W p l e (rm 1 40) s m args below meth c H locs 0 0 (MQ below (QI D cy A (cnC nS nL) ad r M0) args s 0 0 A) (F0 m 10 ls []) := by
    intro n2
    induction n2 with
    | zero => intro i3 i4 H locs ls hW hS hl h; cases h
    | succ n2 ih2 =>
      intro i3 i4 H locs ls hW hS hl h
      unfold fX9_monthsAmiss_l10 fX9_monthsAmiss_b10 at h
      refine lv_iload_n hx hb dX9_monthsAmiss_10 rfl (lv_at hl 3 rfl) ?_
      refine tb_aload_n hx hb dX9_monthsAmiss_11 rfl (lv_at hl 1 rfl) ?_
      replace h := oc_d h
      obtain ⟨a5, ea5, h⟩ := h
      subst ea5
      have la5 := hx1 _ rfl
      refine gtX9_58 hx hb hts hown hK hW la5 dX9_monthsAmiss_12 ?_
      refine lv_icmp_ge (tgt := 60) hx hb dX9_monthsAmiss_15 (by decide) (fun c6 => ?_) (fun c6 => ?_)
      · replace h := sh_t c6 h
        refine lv_aload_n hx hb dX9_monthsAmiss_60 rfl (lv_at hl 0 rfl) ?_
        refine gtX9_21 hx hb hts hown hK hW cz9 dX9_monthsAmiss_61 ?_
        refine gtX9_151 hx hb hts hown hK hW cz5 dX9_monthsAmiss_64 ?_
        refine lv_iload_n hx hb dX9_monthsAmiss_67 rfl (lv_at hl 2 rfl) ?_
        refine lv_aload_n hx hb dX9_monthsAmiss_68 rfl (lv_at hl 1 rfl) ?_
        refine gtX9_160 hx hb hts hown hK hW la5 dX9_monthsAmiss_69 ?_
        refine va_mmax hx hb (hml.trans hl.1.symm) hown (hts _ tw1046) (hts _ tw656) (hts _ tw91) (hts _ tw657) (Nat.le_of_ble_eq_true rfl) (by show _ ≤ _; exact Nat.le_of_ble_eq_true rfl) (Nat.le_refl _) (Nat.le_refl _) dX9_monthsAmiss_72 ?_
        refine lv_isub hx hb dX9_monthsAmiss_75 ?_
        exact tb_iretO h hx hb hr hS hW hlk dX9_monthsAmiss_76
      · replace h := sh_f c6 h
        refine lv_aload_n hx hb dX9_monthsAmiss_18 rfl (lv_at hl 1 rfl) ?_
        refine gtX9_113 hx hb hts hown hK hW la5 dX9_monthsAmiss_19 ?_
        refine lv_aload_n hx hb dX9_monthsAmiss_22 rfl (lv_at hl 0 rfl) ?_
        refine gtX9_21 hx hb hts hown hK hW cz9 dX9_monthsAmiss_23 ?_
        refine gtX9_154 hx hb hts hown hK hW cz5 dX9_monthsAmiss_26 ?_
        refine lv_land hx hb dX9_monthsAmiss_29 ?_
        refine lv_iload_n hx hb dX9_monthsAmiss_30 rfl (lv_at hl 3 rfl) ?_
        refine tb_cNZ hZk hx hb hml hown hts hK hZ hW hS [.long ((mgL M0 815 a5 0) &&& (mgL M0 505 0 0)), .int i4] (mX11_isIn (l := l) hZk ((mgL M0 815 a5 0) &&& (mgL M0 505 0 0)) i4 M0 (fX11_isIn ((mgL M0 815 a5 0) &&& (mgL M0 505 0 0)) i4) rfl) pmX11_isIn (hZ.2.2.2.2.2.1 8 _ rfl) ⟨Nat.le_of_ble_eq_true rfl, Nat.le_of_ble_eq_true rfl⟩ rfl hl.1 (Nat.le_of_ble_eq_true rfl) ⟨Nat.le_refl _, Nat.le_refl _⟩ rfl dX9_monthsAmiss_31 (fun H locs hW hS hzz => ?_)
        refine lv_topi (fun b7 eb7 => ?_)
        replace h := nm_a eb7 h
        have hzb7 : b7 = 0 ∨ b7 = 1 := by rw [eb7]; exact hzz
        refine lv_if_eq (tgt := 54) hx hb dX9_monthsAmiss_34 (by decide) (fun c8 => ?_) (fun c8 => ?_)
        · replace h := sh_t c8 h
          obtain ⟨v9, ev9⟩ : ∃ y : Int32, y = i4 + (1 : Int32) := ⟨_, rfl⟩
          replace h := nm_a ev9 h
          refine lv_iinc (v := v9) (lv' := [(3, .int v9), (0, .ref (ad 9 0)), (1, .ref (ad 8 a5)), (2, .int i3)]) hx hb dX9_monthsAmiss_54 hl (k := 3) rfl (by rw [ev9]; rfl) (by decide) rfl (fun ls hl => ?_)
          refine lv_goto (tgt := 10) hx hb dX9_monthsAmiss_57 (by decide) ?_
          exact ih2 i3 v9 _ _ _ hW hS (lv_sub hl [1, 2, 3, 0] rfl) h
        · replace h := sh_f c8 h
          refine lv_iload_n hx hb dX9_monthsAmiss_37 rfl (lv_at hl 2 rfl) ?_
          refine lv_aload_n hx hb dX9_monthsAmiss_38 rfl (lv_at hl 0 rfl) ?_
          refine gtX9_21 hx hb hts hown hK hW cz9 dX9_monthsAmiss_39 ?_
          refine gtX9_35 hx hb hts hown hK hW cz5 dX9_monthsAmiss_42 ?_
          refine lv_iload_n hx hb dX9_monthsAmiss_45 rfl (lv_at hl 3 rfl) ?_
          replace h := ix_a h
          obtain ⟨hj, h⟩ := h
          refine al32 hx hb hK hW cz32 hj dX9_monthsAmiss_46 (fun o10 eo10 ho10 => ?_)
          replace h := nm_a eo10 h
          replace h := oc_d h
          obtain ⟨a11, ea11, h⟩ := h
          subst ea11
          have la11 := ho10 _ rfl
          refine gtX9_139 hx hb hts hown hK hW la11 dX9_monthsAmiss_47 ?_
          refine va_mmin hx hb (hml.trans hl.1.symm) hown (hts _ tw1045) (hts _ tw807) (hts _ tw91) (hts _ tw808) (Nat.le_of_ble_eq_true rfl) (by show _ ≤ _; exact Nat.le_of_ble_eq_true rfl) (Nat.le_refl _) (Nat.le_refl _) dX9_monthsAmiss_50 ?_
          refine lv_topi (fun v12 ev12 => ?_)
          replace h := nm_a ev12 h
          refine lv_istore_n (lv' := [(2, .int v12), (0, .ref (ad 9 0)), (1, .ref (ad 8 a5)), (3, .int i4)]) hx hb dX9_monthsAmiss_53 rfl hl (by decide) rfl (fun ls hl => ?_)
          obtain ⟨v13, ev13⟩ : ∃ y : Int32, y = i4 + (1 : Int32) := ⟨_, rfl⟩
          replace h := nm_a ev13 h
          refine lv_iinc (v := v13) (lv' := [(3, .int v13), (2, .int v12), (0, .ref (ad 9 0)), (1, .ref (ad 8 a5))]) hx hb dX9_monthsAmiss_54 hl (k := 3) rfl (by rw [ev13]; rfl) (by decide) rfl (fun ls hl => ?_)
          refine lv_goto (tgt := 10) hx hb dX9_monthsAmiss_57 (by decide) ?_
          exact ih2 v12 v13 _ _ _ hW hS (lv_sub hl [2, 3, 1, 0] rfl) h
  exact L2 FU v1 (0 : Int32) _ _ _ hW hS (lv_sub hl [2, 3, 1, 0] rfl) h
def fX9_costOf_b103 (M9 : Mem) (v11 : Int64) (x1 : Int32) (k12 : Int32 → Int32 → Option (Int32 × Mem)) (i13 : Int32) (i14 : Int32) : Option (Int32 × Mem) :=
  if (mgI M9 502 0 0) ≤ i14 then (some (i13, M9)) else (ix i14 64 <| nm (mgR M9 3200 0 i14.toNatClampNeg) fun o16 => nm (fX11_isIn v11 i14) fun b17 => if b17 = 0 then (nm (i14 + (1 : Int32)) fun v19 => k12 i13 v19) else (oc o16 none fun a20 => if ((mgI M9 804 a20 0) / (100 : Int32)) = x1 then (bd (fX9_monthsAmiss (some a20) M9) fun b23 => nm (i13 + (b23 * ((mgI M9 804 a20 0) - (mgI M9 804 a20 0) / (100 : Int32) * (100 : Int32)))) fun v24 => nm (i14 + (1 : Int32)) fun v25 => k12 v24 v25) else (nm (i14 + (1 : Int32)) fun v22 => k12 i13 v22)))
def fX9_costOf_l103 (M9 : Mem) (v11 : Int64) (x1 : Int32) : Nat → Int32 → Int32 → Option (Int32 × Mem)
  | 0, _, _ => none
  | n + 1, i13, i14 => fX9_costOf_b103 M9 v11 x1 (fX9_costOf_l103 M9 v11 x1 n) i13 i14
def fX9_costOf_b5 (M0 : Mem) (x1 : Int32) (k1 : Int64 → Int32 → Option (Int32 × Mem)) (j2 : Int64) (i3 : Int32) : Option (Int32 × Mem) :=
  if (mgI M0 502 0 0) ≤ i3 then (bE (fX9_work (0 : Int64) (0 : Int64) (-1 : Int64) M0) fun u5 M6 => bd (fX9_sayingYes M6) fun g7 => bE (fX9_work j2 (0 : Int64) (-1 : Int64) M6) fun u8 M9 => bd (fX9_sayingYes M9) fun g10 => nm (g7 ^^^ g10) fun v11 => fX9_costOf_l103 M9 v11 x1 FU (0 : Int32) (0 : Int32)) else (ix i3 64 <| nm (mgR M0 3200 0 i3.toNatClampNeg) fun o26 => oc o26 none fun a27 => if (mgI M0 801 a27 0) = (1 : Int32) then (ix i3 64 <| nm (mgR M0 3200 0 i3.toNatClampNeg) fun o30 => oc o30 none fun a31 => if (mgI M0 807 a31 0) < 0 then (nm (i3 + (1 : Int32)) fun v33 => k1 j2 v33) else (nm (j2 ||| (fX11_bit i3)) fun v34 => nm (i3 + (1 : Int32)) fun v35 => k1 v34 v35)) else (nm (i3 + (1 : Int32)) fun v29 => k1 j2 v29))
def fX9_costOf_l5 (M0 : Mem) (x1 : Int32) : Nat → Int64 → Int32 → Option (Int32 × Mem)
  | 0, _, _ => none
  | n + 1, j2, i3 => fX9_costOf_b5 M0 x1 (fX9_costOf_l5 M0 x1 n) j2 i3
def fX9_costOf (x1 : Int32) (M0 : Mem) : Option (Int32 × Mem) :=
  fX9_costOf_l5 M0 x1 FU (0 : Int64) (0 : Int32)
set_option maxHeartbeats 4000000 in
set_option maxRecDepth 100000 in
theorem mX9_costOf {l : Launch} {D : va_G} {cy : Nat → ClassId} {A : Nat → Prop} {K : KC} {nS nL : Nat} {ad : Nat → Nat → Nat} (hZk : ZOK A (ZC A K)) (x1 : Int32) (M0 : Mem) (r : Int32) (M' : Mem) (h : fX9_costOf x1 M0 = some (r, M')) : Met l yX9_costOf (wt yX9_costOf cX9_costOf 9 (some .int)) (rm 3 97) (CPre D cy A (ZC A K) (cnC nS nL) ad M0 [.ref (ad 9 0), .int x1]) (QI D cy A (cnC nS nL) ad r M') 0 0 A := by
  refine tb_start [.ref (ad 9 0), .int x1] [(0, .ref (ad 9 0)), (1, .int x1)] RX9 rfl (by decide +kernel) (Nat.le_of_ble_eq_true rfl) rfl (fun p e s m args below meth c hx hb hr hml hown hts hlk hW hK hZ ls hl => ?_)
  have hS : va_S A s.heap s.heap [] := va_S.rf
  unfold fX9_costOf at h
  refine lv_lconst (v := (0 : Int64)) hx hb dX9_costOf_0 (by decide) ?_
  refine lv_lstore_n (lv' := [(2, .long (0 : Int64)), (0, .ref (ad 9 0)), (1, .int x1)]) hx hb dX9_costOf_1 rfl hl (by decide) rfl (fun ls hl => ?_)
  refine lv_iconst (v := (0 : Int32)) hx hb dX9_costOf_2 (by decide) ?_
  refine lv_istore (lv' := [(4, .int (0 : Int32)), (2, .long (0 : Int64)), (0, .ref (ad 9 0)), (1, .int x1)]) hx hb dX9_costOf_3 hl (by decide) rfl (fun ls hl => ?_)
  have L1 : ∀ (n1 : Nat) (j2 : Int64) (i3 : Int32) (H : Heap) (locs : List Loc) (ls : Array Slot), Wd D cy A (cnC nS nL) ad M0 H → va_S A s.heap H locs → lv_has ls 9 [(0, .ref (ad 9 0)), (1, .int x1), (2, .long j2), (4, .int i3)] → fX9_costOf_l5 M0 x1 n1 j2 i3 = some (r, M') → W p l e (rm 3 97) s m args below meth c H locs 0 0 (MQ below (QI D cy A (cnC nS nL) ad r M') args s 0 0 A) (F0 m 5 ls []) := by
    intro n1
    induction n1 with
    | zero => intro j2 i3 H locs ls hW hS hl h; cases h
    | succ n1 ih1 =>
      intro j2 i3 H locs ls hW hS hl h
      unfold fX9_costOf_l5 fX9_costOf_b5 at h
      refine lv_iload hx hb dX9_costOf_5 (lv_at hl 3 rfl) ?_
      refine lv_aload_n hx hb dX9_costOf_7 rfl (lv_at hl 0 rfl) ?_
      refine gtX9_21 hx hb hts hown hK hW cz9 dX9_costOf_8 ?_
      refine gtX9_25 hx hb hts hown hK hW cz5 dX9_costOf_11 ?_
      refine lv_icmp_ge (tgt := 64) hx hb dX9_costOf_14 (by decide) (fun c4 => ?_) (fun c4 => ?_)
      · replace h := sh_t c4 h
        refine lv_aload_n hx hb dX9_costOf_64 rfl (lv_at hl 0 rfl) ?_
        refine lv_lconst (v := (0 : Int64)) hx hb dX9_costOf_65 (by decide) ?_
        refine lv_lconst (v := (0 : Int64)) hx hb dX9_costOf_66 (by decide) ?_
        refine lv_ldc2 hx hb hown (hts _ tw1039) dX9_costOf_67 ?_
        replace h := bE_a h
        obtain ⟨u5, M6, hcu5, h⟩ := h
        refine tb_cVV hZk hx hb hml hown hts hK hZ hW hS [.long (0 : Int64), .long (0 : Int64), .long (-1 : Int64)] (mX9_work (l := l) hZk (0 : Int64) (0 : Int64) (-1 : Int64) M0 u5 M6 hcu5) pmX9_work tw682 (Wd.recv hK hW (t := 9) (by decide) cz9 (C := RX9) (T := TX9) (N := 4) rfl) ⟨Nat.le_of_ble_eq_true rfl, Nat.le_of_ble_eq_true rfl⟩ rfl hl.1 (Nat.le_of_ble_eq_true rfl) ⟨Nat.le_refl _, Nat.le_refl _⟩ rfl dX9_costOf_70 (fun H locs hW hS => ?_)
        refine lv_aload_n hx hb dX9_costOf_73 rfl (lv_at hl 0 rfl) ?_
        replace h := bd_a h
        obtain ⟨g7, hcg7, h⟩ := h
        refine tb_cVL hZk hx hb hml hown hts hK hZ hW hS [] (mX9_sayingYes (l := l) hZk M6 g7 hcg7) pmX9_sayingYes tw1040 (Wd.recv hK hW (t := 9) (by decide) cz9 (C := RX9) (T := TX9) (N := 4) rfl) ⟨Nat.le_of_ble_eq_true rfl, Nat.le_of_ble_eq_true rfl⟩ rfl hl.1 (Nat.le_of_ble_eq_true rfl) ⟨Nat.le_refl _, Nat.le_refl _⟩ rfl dX9_costOf_74 (fun H locs hW hS => ?_)
        refine lv_lstore (lv' := [(4, .long g7), (0, .ref (ad 9 0)), (1, .int x1), (2, .long j2)]) hx hb dX9_costOf_77 hl (by decide) rfl (fun ls hl => ?_)
        refine lv_aload_n hx hb dX9_costOf_79 rfl (lv_at hl 1 rfl) ?_
        refine lv_lload_n hx hb dX9_costOf_80 rfl (lv_at hl 3 rfl) ?_
        refine lv_lconst (v := (0 : Int64)) hx hb dX9_costOf_81 (by decide) ?_
        refine lv_ldc2 hx hb hown (hts _ tw1039) dX9_costOf_82 ?_
        replace h := bE_a h
        obtain ⟨u8, M9, hcu8, h⟩ := h
        refine tb_cVV hZk hx hb hml hown hts hK hZ hW hS [.long j2, .long (0 : Int64), .long (-1 : Int64)] (mX9_work (l := l) hZk j2 (0 : Int64) (-1 : Int64) M6 u8 M9 hcu8) pmX9_work tw682 (Wd.recv hK hW (t := 9) (by decide) cz9 (C := RX9) (T := TX9) (N := 4) rfl) ⟨Nat.le_of_ble_eq_true rfl, Nat.le_of_ble_eq_true rfl⟩ rfl hl.1 (Nat.le_of_ble_eq_true rfl) ⟨Nat.le_refl _, Nat.le_refl _⟩ rfl dX9_costOf_85 (fun H locs hW hS => ?_)
        refine lv_lload hx hb dX9_costOf_88 (lv_at hl 0 rfl) ?_
        refine lv_aload_n hx hb dX9_costOf_90 rfl (lv_at hl 1 rfl) ?_
        replace h := bd_a h
        obtain ⟨g10, hcg10, h⟩ := h
        refine tb_cVL hZk hx hb hml hown hts hK hZ hW hS [] (mX9_sayingYes (l := l) hZk M9 g10 hcg10) pmX9_sayingYes tw1040 (Wd.recv hK hW (t := 9) (by decide) cz9 (C := RX9) (T := TX9) (N := 4) rfl) ⟨Nat.le_of_ble_eq_true rfl, Nat.le_of_ble_eq_true rfl⟩ rfl hl.1 (Nat.le_of_ble_eq_true rfl) ⟨Nat.le_refl _, Nat.le_refl _⟩ rfl dX9_costOf_91 (fun H locs hW hS => ?_)
        refine lv_lxor hx hb dX9_costOf_94 ?_
        refine lv_topl (fun v11 ev11 => ?_)
        replace h := nm_a ev11 h
        refine lv_lstore (lv' := [(4, .long v11), (0, .ref (ad 9 0)), (1, .int x1), (2, .long j2)]) hx hb dX9_costOf_95 hl (by decide) rfl (fun ls hl => ?_)
        refine lv_iconst (v := (0 : Int32)) hx hb dX9_costOf_97 (by decide) ?_
        refine lv_istore (lv' := [(6, .int (0 : Int32)), (4, .long v11), (0, .ref (ad 9 0)), (1, .int x1), (2, .long j2)]) hx hb dX9_costOf_98 hl (by decide) rfl (fun ls hl => ?_)
        refine lv_iconst (v := (0 : Int32)) hx hb dX9_costOf_100 (by decide) ?_
        refine lv_istore (lv' := [(7, .int (0 : Int32)), (6, .int (0 : Int32)), (4, .long v11), (0, .ref (ad 9 0)), (1, .int x1), (2, .long j2)]) hx hb dX9_costOf_101 hl (by decide) rfl (fun ls hl => ?_)
        have L12 : ∀ (n12 : Nat) (i13 : Int32) (i14 : Int32) (H : Heap) (locs : List Loc) (ls : Array Slot), Wd D cy A (cnC nS nL) ad M9 H → va_S A s.heap H locs → lv_has ls 9 [(0, .ref (ad 9 0)), (1, .int x1), (4, .long v11), (6, .int i13), (7, .int i14)] → fX9_costOf_l103 M9 v11 x1 n12 i13 i14 = some (r, M') → W p l e (rm 3 97) s m args below meth c H locs 0 0 (MQ below (QI D cy A (cnC nS nL) ad r M') args s 0 0 A) (F0 m 103 ls []) := by
          intro n12
          induction n12 with
          | zero => intro i13 i14 H locs ls hW hS hl h; cases h
          | succ n12 ih12 =>
            intro i13 i14 H locs ls hW hS hl h
            unfold fX9_costOf_l103 fX9_costOf_b103 at h
            refine lv_iload hx hb dX9_costOf_103 (lv_at hl 4 rfl) ?_
            refine lv_aload_n hx hb dX9_costOf_105 rfl (lv_at hl 0 rfl) ?_
            refine gtX9_21 hx hb hts hown hK hW cz9 dX9_costOf_106 ?_
            refine gtX9_25 hx hb hts hown hK hW cz5 dX9_costOf_109 ?_
            refine lv_icmp_ge (tgt := 175) hx hb dX9_costOf_112 (by decide) (fun c15 => ?_) (fun c15 => ?_)
            · replace h := sh_t c15 h
              refine lv_iload hx hb dX9_costOf_175 (lv_at hl 3 rfl) ?_
              exact tb_iretE h hx hb hr hS hW hlk dX9_costOf_177
            · replace h := sh_f c15 h
              refine lv_aload_n hx hb dX9_costOf_115 rfl (lv_at hl 0 rfl) ?_
              refine gtX9_21 hx hb hts hown hK hW cz9 dX9_costOf_116 ?_
              refine gtX9_35 hx hb hts hown hK hW cz5 dX9_costOf_119 ?_
              refine lv_iload hx hb dX9_costOf_122 (lv_at hl 4 rfl) ?_
              replace h := ix_a h
              obtain ⟨hj, h⟩ := h
              refine al32 hx hb hK hW cz32 hj dX9_costOf_124 (fun o16 eo16 ho16 => ?_)
              replace h := nm_a eo16 h
              refine tb_astore (lv' := [(8, rv (ad 8) o16), (0, .ref (ad 9 0)), (1, .int x1), (4, .long v11), (6, .int i13), (7, .int i14)]) hx hb dX9_costOf_125 hl (by decide) rfl (fun ls hl => ?_)
              refine lv_lload hx hb dX9_costOf_127 (lv_at hl 3 rfl) ?_
              refine lv_iload hx hb dX9_costOf_129 (lv_at hl 5 rfl) ?_
              refine tb_cNZ hZk hx hb hml hown hts hK hZ hW hS [.long v11, .int i14] (mX11_isIn (l := l) hZk v11 i14 M9 (fX11_isIn v11 i14) rfl) pmX11_isIn (hZ.2.2.2.2.2.1 8 _ rfl) ⟨Nat.le_of_ble_eq_true rfl, Nat.le_of_ble_eq_true rfl⟩ rfl hl.1 (Nat.le_of_ble_eq_true rfl) ⟨Nat.le_refl _, Nat.le_refl _⟩ rfl dX9_costOf_131 (fun H locs hW hS hzz => ?_)
              refine lv_topi (fun b17 eb17 => ?_)
              replace h := nm_a eb17 h
              have hzb17 : b17 = 0 ∨ b17 = 1 := by rw [eb17]; exact hzz
              refine lv_if_eq (tgt := 169) hx hb dX9_costOf_134 (by decide) (fun c18 => ?_) (fun c18 => ?_)
              · replace h := sh_t c18 h
                obtain ⟨v19, ev19⟩ : ∃ y : Int32, y = i14 + (1 : Int32) := ⟨_, rfl⟩
                replace h := nm_a ev19 h
                refine lv_iinc (v := v19) (lv' := [(7, .int v19), (8, rv (ad 8) o16), (0, .ref (ad 9 0)), (1, .int x1), (4, .long v11), (6, .int i13)]) hx hb dX9_costOf_169 hl (k := 5) rfl (by rw [ev19]; rfl) (by decide) rfl (fun ls hl => ?_)
                refine lv_goto (tgt := 103) hx hb dX9_costOf_172 (by decide) ?_
                exact ih12 i13 v19 _ _ _ hW hS (lv_sub hl [2, 3, 4, 5, 0] rfl) h
              · replace h := sh_f c18 h
                refine tb_aload hx hb dX9_costOf_137 (lv_at hl 0 rfl) ?_
                replace h := oc_d h
                obtain ⟨a20, ea20, h⟩ := h
                subst ea20
                have la20 := ho16 _ rfl
                refine gtX9_61 hx hb hts hown hK hW la20 dX9_costOf_139 ?_
                refine lv_bipush (v := (100 : Int32)) hx hb dX9_costOf_142 (by decide) ?_
                refine lv_idiv hx hb dX9_costOf_144 (by decide) ?_
                refine lv_iload_n hx hb dX9_costOf_145 rfl (lv_at hl 2 rfl) ?_
                refine lv_icmp_ne (tgt := 169) hx hb dX9_costOf_146 (by decide) (fun c21 => ?_) (fun c21 => ?_)
                · replace h := sh_f c21 h
                  obtain ⟨v22, ev22⟩ : ∃ y : Int32, y = i14 + (1 : Int32) := ⟨_, rfl⟩
                  replace h := nm_a ev22 h
                  refine lv_iinc (v := v22) (lv' := [(7, .int v22), (8, .ref (ad 8 a20)), (0, .ref (ad 9 0)), (1, .int x1), (4, .long v11), (6, .int i13)]) hx hb dX9_costOf_169 hl (k := 5) rfl (by rw [ev22]; rfl) (by decide) rfl (fun ls hl => ?_)
                  refine lv_goto (tgt := 103) hx hb dX9_costOf_172 (by decide) ?_
                  exact ih12 i13 v22 _ _ _ hW hS (lv_sub hl [2, 3, 4, 5, 0] rfl) h
                · replace h := sh_t c21 h
                  refine lv_iload hx hb dX9_costOf_149 (lv_at hl 4 rfl) ?_
                  refine lv_aload_n hx hb dX9_costOf_151 rfl (lv_at hl 1 rfl) ?_
                  refine lv_aload hx hb dX9_costOf_152 (lv_at hl 0 rfl) ?_
                  replace h := bd_a h
                  obtain ⟨b23, hcb23, h⟩ := h
                  refine tb_cVI hZk hx hb hml hown hts hK hZ hW hS [.ref (ad 8 a20)] (mX9_monthsAmiss (l := l) hZk (some a20) M9 (fun z hz => Option.some.inj hz ▸ la20) b23 hcb23) pmX9_monthsAmiss tw1041 (Wd.recv hK hW (t := 9) (by decide) cz9 (C := RX9) (T := TX9) (N := 4) rfl) ⟨Nat.le_of_ble_eq_true rfl, Nat.le_of_ble_eq_true rfl⟩ rfl hl.1 (Nat.le_of_ble_eq_true rfl) ⟨Nat.le_refl _, Nat.le_refl _⟩ rfl dX9_costOf_154 (fun H locs hW hS => ?_)
                  refine lv_aload hx hb dX9_costOf_157 (lv_at hl 0 rfl) ?_
                  refine gtX9_61 hx hb hts hown hK hW la20 dX9_costOf_159 ?_
                  refine lv_bipush (v := (100 : Int32)) hx hb dX9_costOf_162 (by decide) ?_
                  refine lv_irem hx hb dX9_costOf_164 (by decide) ?_
                  refine lv_imul hx hb dX9_costOf_165 ?_
                  refine lv_iadd hx hb dX9_costOf_166 ?_
                  refine lv_topi (fun v24 ev24 => ?_)
                  replace h := nm_a ev24 h
                  refine lv_istore (lv' := [(6, .int v24), (8, .ref (ad 8 a20)), (0, .ref (ad 9 0)), (1, .int x1), (4, .long v11), (7, .int i14)]) hx hb dX9_costOf_167 hl (by decide) rfl (fun ls hl => ?_)
                  obtain ⟨v25, ev25⟩ : ∃ y : Int32, y = i14 + (1 : Int32) := ⟨_, rfl⟩
                  replace h := nm_a ev25 h
                  refine lv_iinc (v := v25) (lv' := [(7, .int v25), (6, .int v24), (8, .ref (ad 8 a20)), (0, .ref (ad 9 0)), (1, .int x1), (4, .long v11)]) hx hb dX9_costOf_169 hl (k := 5) rfl (by rw [ev25]; rfl) (by decide) rfl (fun ls hl => ?_)
                  refine lv_goto (tgt := 103) hx hb dX9_costOf_172 (by decide) ?_
                  exact ih12 v24 v25 _ _ _ hW hS (lv_sub hl [3, 4, 5, 1, 0] rfl) h
        exact L12 FU (0 : Int32) (0 : Int32) _ _ _ hW hS (lv_sub hl [3, 4, 2, 1, 0] rfl) h
      · replace h := sh_f c4 h
        refine lv_aload_n hx hb dX9_costOf_17 rfl (lv_at hl 0 rfl) ?_
        refine gtX9_21 hx hb hts hown hK hW cz9 dX9_costOf_18 ?_
        refine gtX9_35 hx hb hts hown hK hW cz5 dX9_costOf_21 ?_
        refine lv_iload hx hb dX9_costOf_24 (lv_at hl 3 rfl) ?_
        replace h := ix_a h
        obtain ⟨hj, h⟩ := h
        refine al32 hx hb hK hW cz32 hj dX9_costOf_26 (fun o26 eo26 ho26 => ?_)
        replace h := nm_a eo26 h
        replace h := oc_d h
        obtain ⟨a27, ea27, h⟩ := h
        subst ea27
        have la27 := ho26 _ rfl
        refine gtX9_55 hx hb hts hown hK hW la27 dX9_costOf_27 ?_
        refine lv_iconst (v := (1 : Int32)) hx hb dX9_costOf_30 (by decide) ?_
        refine lv_icmp_ne (tgt := 58) hx hb dX9_costOf_31 (by decide) (fun c28 => ?_) (fun c28 => ?_)
        · replace h := sh_f c28 h
          obtain ⟨v29, ev29⟩ : ∃ y : Int32, y = i3 + (1 : Int32) := ⟨_, rfl⟩
          replace h := nm_a ev29 h
          refine lv_iinc (v := v29) (lv' := [(4, .int v29), (0, .ref (ad 9 0)), (1, .int x1), (2, .long j2)]) hx hb dX9_costOf_58 hl (k := 3) rfl (by rw [ev29]; rfl) (by decide) rfl (fun ls hl => ?_)
          refine lv_goto (tgt := 5) hx hb dX9_costOf_61 (by decide) ?_
          exact ih1 j2 v29 _ _ _ hW hS (lv_sub hl [1, 2, 3, 0] rfl) h
        · replace h := sh_t c28 h
          refine lv_aload_n hx hb dX9_costOf_34 rfl (lv_at hl 0 rfl) ?_
          refine gtX9_21 hx hb hts hown hK hW cz9 dX9_costOf_35 ?_
          refine gtX9_35 hx hb hts hown hK hW cz5 dX9_costOf_38 ?_
          refine lv_iload hx hb dX9_costOf_41 (lv_at hl 3 rfl) ?_
          replace h := ix_a h
          obtain ⟨hj, h⟩ := h
          refine al32 hx hb hK hW cz32 hj dX9_costOf_43 (fun o30 eo30 ho30 => ?_)
          replace h := nm_a eo30 h
          replace h := oc_d h
          obtain ⟨a31, ea31, h⟩ := h
          subst ea31
          have la31 := ho30 _ rfl
          refine gtX9_139 hx hb hts hown hK hW la31 dX9_costOf_44 ?_
          refine lv_if_lt (tgt := 58) hx hb dX9_costOf_47 (by decide) (fun c32 => ?_) (fun c32 => ?_)
          · replace h := sh_t c32 h
            obtain ⟨v33, ev33⟩ : ∃ y : Int32, y = i3 + (1 : Int32) := ⟨_, rfl⟩
            replace h := nm_a ev33 h
            refine lv_iinc (v := v33) (lv' := [(4, .int v33), (0, .ref (ad 9 0)), (1, .int x1), (2, .long j2)]) hx hb dX9_costOf_58 hl (k := 3) rfl (by rw [ev33]; rfl) (by decide) rfl (fun ls hl => ?_)
            refine lv_goto (tgt := 5) hx hb dX9_costOf_61 (by decide) ?_
            exact ih1 j2 v33 _ _ _ hW hS (lv_sub hl [1, 2, 3, 0] rfl) h
          · replace h := sh_f c32 h
            refine lv_lload_n hx hb dX9_costOf_50 rfl (lv_at hl 2 rfl) ?_
            refine lv_iload hx hb dX9_costOf_51 (lv_at hl 3 rfl) ?_
            refine tb_cNL hZk hx hb hml hown hts hK hZ hW hS [.int i3] (mX11_bit (l := l) hZk i3 M0 (fX11_bit i3) rfl) pmX11_bit (hZ.2.2.2.2.2.1 9 _ rfl) ⟨Nat.le_of_ble_eq_true rfl, Nat.le_of_ble_eq_true rfl⟩ rfl hl.1 (Nat.le_of_ble_eq_true rfl) ⟨Nat.le_refl _, Nat.le_refl _⟩ rfl dX9_costOf_53 (fun H locs hW hS => ?_)
            refine lv_lor hx hb dX9_costOf_56 ?_
            refine lv_topl (fun v34 ev34 => ?_)
            replace h := nm_a ev34 h
            refine lv_lstore_n (lv' := [(2, .long v34), (0, .ref (ad 9 0)), (1, .int x1), (4, .int i3)]) hx hb dX9_costOf_57 rfl hl (by decide) rfl (fun ls hl => ?_)
            obtain ⟨v35, ev35⟩ : ∃ y : Int32, y = i3 + (1 : Int32) := ⟨_, rfl⟩
            replace h := nm_a ev35 h
            refine lv_iinc (v := v35) (lv' := [(4, .int v35), (2, .long v34), (0, .ref (ad 9 0)), (1, .int x1)]) hx hb dX9_costOf_58 hl (k := 3) rfl (by rw [ev35]; rfl) (by decide) rfl (fun ls hl => ?_)
            refine lv_goto (tgt := 5) hx hb dX9_costOf_61 (by decide) ?_
            exact ih1 v34 v35 _ _ _ hW hS (lv_sub hl [2, 3, 1, 0] rfl) h
  exact L1 FU (0 : Int64) (0 : Int32) _ _ _ hW hS (lv_sub hl [2, 3, 1, 0] rfl) h
def fX10_become_b15 (th : Nat) (a1 : Nat) (k4 : Int32 → Mem → Option (Unit × Mem)) (i5 : Int32) (M6 : Mem) : Option (Unit × Mem) :=
  if (mgI M6 1001 th 0) ≤ i5 then (some ((), M6)) else (ix i5 121 <| nm (mgI M6 4400 a1 i5.toNatClampNeg) fun v8 => ix i5 121 <| nm (msI M6 4400 th i5.toNatClampNeg v8) fun M9 => nm (i5 + (1 : Int32)) fun v10 => k4 v10 M9)
def fX10_become_l15 (th : Nat) (a1 : Nat) : Nat → Int32 → Mem → Option (Unit × Mem)
  | 0, _, _ => none
  | n + 1, i5, M6 => fX10_become_b15 th a1 (fX10_become_l15 th a1 n) i5 M6
def fX10_become (th : Nat) (x1 : Option Nat) (M0 : Mem) : Option (Unit × Mem) :=
  oc x1 none fun a1 => nm (if (121 : Int32) < (mgI M0 1001 a1 0) then (121 : Int32) else (mgI M0 1001 a1 0)) fun v2 => nm (msI M0 1001 th 0 v2) fun M3 => fX10_become_l15 th a1 FU (0 : Int32) M3
set_option maxHeartbeats 4000000 in
set_option maxRecDepth 100000 in
theorem mX10_become {l : Launch} {D : va_G} {cy : Nat → ClassId} {A : Nat → Prop} {K : KC} {nS nL : Nat} {ad : Nat → Nat → Nat} (hZk : ZOK A (ZC A K)) (th : Nat) (x1 : Option Nat) (M0 : Mem) (hth : th < (cnC nS nL) 10) (hx1 : ∀ z, x1 = some z → z < (cnC nS nL) 10) (r : Unit) (M' : Mem) (h : fX10_become th x1 M0 = some (r, M')) : Met l yX10_become (wt yX10_become cX10_become 3 none) (rm 1 40) (CPre D cy A (ZC A K) (cnC nS nL) ad M0 [.ref (ad 10 th), rv (ad 10) x1]) (QV D cy A (cnC nS nL) ad r M') 0 0 A := by
  refine tb_start [.ref (ad 10 th), rv (ad 10) x1] [(0, .ref (ad 10 th)), (1, rv (ad 10) x1)] RX10 rfl (by decide +kernel) (by simp [lg_sl, List.flatMap_cons, rv_cat, cat_r, cat_i, cat_l]) (by simp [lv_args, rv_cat, cat_r, cat_i, cat_l]) (fun p e s m args below meth c hx hb hr hml hown hts hlk hW hK hZ ls hl => ?_)
  have hS : va_S A s.heap s.heap [] := va_S.rf
  unfold fX10_become at h
  refine lv_aload_n hx hb dX10_become_0 rfl (lv_at hl 0 rfl) ?_
  refine tb_aload_n hx hb dX10_become_1 rfl (lv_at hl 1 rfl) ?_
  replace h := oc_d h
  obtain ⟨a1, ea1, h⟩ := h
  subst ea1
  have la1 := hx1 _ rfl
  refine gtX10_15 hx hb hts hown hK hW la1 dX10_become_2 ?_
  refine lv_bipush (v := (121 : Int32)) hx hb dX10_become_5 (by decide) ?_
  refine va_mmin hx hb (hml.trans hl.1.symm) hown (hts _ tw981) (hts _ tw807) (hts _ tw91) (hts _ tw808) (Nat.le_of_ble_eq_true rfl) (by show _ ≤ _; exact Nat.le_of_ble_eq_true rfl) (Nat.le_refl _) (Nat.le_refl _) dX10_become_7 ?_
  refine lv_topi (fun v2 ev2 => ?_)
  replace h := nm_a ev2 h
  refine ptX10_15 hx hb hts hown hK hW hS hth dX10_become_10 (fun H locs hW hS => ?_)
  obtain ⟨M3, eM3⟩ : ∃ y, y = msI M0 1001 th 0 v2 := ⟨_, rfl⟩
  replace h := nm_a eM3 h
  rw [← eM3] at hW
  refine lv_iconst (v := (0 : Int32)) hx hb dX10_become_13 (by decide) ?_
  refine lv_istore_n (lv' := [(2, .int (0 : Int32)), (0, .ref (ad 10 th)), (1, .ref (ad 10 a1))]) hx hb dX10_become_14 rfl hl (by decide) rfl (fun ls hl => ?_)
  have L4 : ∀ (n4 : Nat) (i5 : Int32) (M6 : Mem) (H : Heap) (locs : List Loc) (ls : Array Slot), Wd D cy A (cnC nS nL) ad M6 H → va_S A s.heap H locs → lv_has ls 3 [(0, .ref (ad 10 th)), (1, .ref (ad 10 a1)), (2, .int i5)] → fX10_become_l15 th a1 n4 i5 M6 = some (r, M') → W p l e (rm 1 40) s m args below meth c H locs 0 0 (MQ below (QV D cy A (cnC nS nL) ad r M') args s 0 0 A) (F0 m 15 ls []) := by
    intro n4
    induction n4 with
    | zero => intro i5 M6 H locs ls hW hS hl h; cases h
    | succ n4 ih4 =>
      intro i5 M6 H locs ls hW hS hl h
      unfold fX10_become_l15 fX10_become_b15 at h
      refine lv_iload_n hx hb dX10_become_15 rfl (lv_at hl 2 rfl) ?_
      refine lv_aload_n hx hb dX10_become_16 rfl (lv_at hl 0 rfl) ?_
      refine gtX10_15 hx hb hts hown hK hW hth dX10_become_17 ?_
      refine lv_icmp_ge (tgt := 41) hx hb dX10_become_20 (by decide) (fun c7 => ?_) (fun c7 => ?_)
      · replace h := sh_t c7 h
        exact tb_vretE h hx hb hr hS hW hlk dX10_become_41
      · replace h := sh_f c7 h
        refine lv_aload_n hx hb dX10_become_23 rfl (lv_at hl 0 rfl) ?_
        refine gtX10_11 hx hb hts hown hK hW hth dX10_become_24 ?_
        refine lv_iload_n hx hb dX10_become_27 rfl (lv_at hl 2 rfl) ?_
        refine lv_aload_n hx hb dX10_become_28 rfl (lv_at hl 1 rfl) ?_
        refine gtX10_11 hx hb hts hown hK hW la1 dX10_become_29 ?_
        refine lv_iload_n hx hb dX10_become_32 rfl (lv_at hl 2 rfl) ?_
        replace h := ix_a h
        obtain ⟨hj, h⟩ := h
        refine al44 hx hb hK hW la1 hj dX10_become_33 ?_
        refine lv_topi (fun v8 ev8 => ?_)
        replace h := nm_a ev8 h
        replace h := ix_a h
        obtain ⟨hj, h⟩ := h
        refine as44 hx hb hK hW hS hth hj dX10_become_34 (fun H locs hW hS => ?_)
        obtain ⟨M9, eM9⟩ : ∃ y, y = msI M6 4400 th i5.toNatClampNeg v8 := ⟨_, rfl⟩
        replace h := nm_a eM9 h
        rw [← eM9] at hW
        obtain ⟨v10, ev10⟩ : ∃ y : Int32, y = i5 + (1 : Int32) := ⟨_, rfl⟩
        replace h := nm_a ev10 h
        refine lv_iinc (v := v10) (lv' := [(2, .int v10), (0, .ref (ad 10 th)), (1, .ref (ad 10 a1))]) hx hb dX10_become_35 hl (k := 2) rfl (by rw [ev10]; rfl) (by decide) rfl (fun ls hl => ?_)
        refine lv_goto (tgt := 15) hx hb dX10_become_38 (by decide) ?_
        exact ih4 v10 M9 _ _ _ hW hS (lv_sub hl [1, 2, 0] rfl) h
  exact L4 FU (0 : Int32) M3 _ _ _ hW hS (lv_sub hl [1, 2, 0] rfl) h
def fX11_countsNow (x1 : Option Nat) (M0 : Mem) : Option (Int32 × Mem) :=
  oc x1 none fun a1 => bE (fX9_work (0 : Int64) (0 : Int64) ((mgL M0 815 a1 0) ||| (fX11_bit (mgI M0 800 a1 0))) M0) fun u2 M3 => ix (mgI M3 800 a1 0) 64 <| some (mgI M3 4100 0 (mgI M3 800 a1 0).toNatClampNeg, M3)
set_option maxHeartbeats 4000000 in
set_option maxRecDepth 100000 in
theorem mX11_countsNow {l : Launch} {D : va_G} {cy : Nat → ClassId} {A : Nat → Prop} {K : KC} {nS nL : Nat} {ad : Nat → Nat → Nat} (hZk : ZOK A (ZC A K)) (x1 : Option Nat) (M0 : Mem) (hx1 : ∀ z, x1 = some z → z < (cnC nS nL) 8) (r : Int32) (M' : Mem) (h : fX11_countsNow x1 M0 = some (r, M')) : Met l yX11_countsNow (wt yX11_countsNow cX11_countsNow 2 (some .int)) (rm 3 97) (CPre D cy A (ZC A K) (cnC nS nL) ad M0 [.ref (ad 11 0), rv (ad 8) x1]) (QI D cy A (cnC nS nL) ad r M') 0 0 A := by
  refine tb_start [.ref (ad 11 0), rv (ad 8) x1] [(0, .ref (ad 11 0)), (1, rv (ad 8) x1)] RX11 rfl (by decide +kernel) (by simp [lg_sl, List.flatMap_cons, rv_cat, cat_r, cat_i, cat_l]) (by simp [lv_args, rv_cat, cat_r, cat_i, cat_l]) (fun p e s m args below meth c hx hb hr hml hown hts hlk hW hK hZ ls hl => ?_)
  have hS : va_S A s.heap s.heap [] := va_S.rf
  unfold fX11_countsNow at h
  refine lv_aload_n hx hb dX11_countsNow_0 rfl (lv_at hl 0 rfl) ?_
  refine gtX11_28 hx hb hts hown hK hW cz11 dX11_countsNow_1 ?_
  refine lv_lconst (v := (0 : Int64)) hx hb dX11_countsNow_4 (by decide) ?_
  refine lv_lconst (v := (0 : Int64)) hx hb dX11_countsNow_5 (by decide) ?_
  refine tb_aload_n hx hb dX11_countsNow_6 rfl (lv_at hl 1 rfl) ?_
  replace h := oc_d h
  obtain ⟨a1, ea1, h⟩ := h
  subst ea1
  have la1 := hx1 _ rfl
  refine gtX11_161 hx hb hts hown hK hW la1 dX11_countsNow_7 ?_
  refine lv_aload_n hx hb dX11_countsNow_10 rfl (lv_at hl 1 rfl) ?_
  refine gtX11_147 hx hb hts hown hK hW la1 dX11_countsNow_11 ?_
  refine tb_cSL hZk hx hb hml hown hts hK hZ hW hS [.int (mgI M0 800 a1 0)] (mX11_bit (l := l) hZk (mgI M0 800 a1 0) M0 (fX11_bit (mgI M0 800 a1 0)) rfl) pmX11_bit tw624 ⟨Nat.le_of_ble_eq_true rfl, Nat.le_of_ble_eq_true rfl⟩ rfl hl.1 (Nat.le_of_ble_eq_true rfl) ⟨Nat.le_refl _, Nat.le_refl _⟩ rfl dX11_countsNow_14 (fun H locs hW hS => ?_)
  refine lv_lor hx hb dX11_countsNow_17 ?_
  replace h := bE_a h
  obtain ⟨u2, M3, hcu2, h⟩ := h
  refine tb_cVV hZk hx hb hml hown hts hK hZ hW hS [.long (0 : Int64), .long (0 : Int64), .long ((mgL M0 815 a1 0) ||| (fX11_bit (mgI M0 800 a1 0)))] (mX9_work (l := l) hZk (0 : Int64) (0 : Int64) ((mgL M0 815 a1 0) ||| (fX11_bit (mgI M0 800 a1 0))) M0 u2 M3 hcu2) pmX9_work tw625 (Wd.recv hK hW (t := 9) (by decide) cz9 (C := RX9) (T := TX9) (N := 4) rfl) ⟨Nat.le_of_ble_eq_true rfl, Nat.le_of_ble_eq_true rfl⟩ rfl hl.1 (Nat.le_of_ble_eq_true rfl) ⟨Nat.le_refl _, Nat.le_refl _⟩ rfl dX11_countsNow_18 (fun H locs hW hS => ?_)
  refine lv_aload_n hx hb dX11_countsNow_21 rfl (lv_at hl 0 rfl) ?_
  refine gtX11_28 hx hb hts hown hK hW cz11 dX11_countsNow_22 ?_
  refine gtX11_217 hx hb hts hown hK hW cz9 dX11_countsNow_25 ?_
  refine lv_aload_n hx hb dX11_countsNow_28 rfl (lv_at hl 1 rfl) ?_
  refine gtX11_147 hx hb hts hown hK hW la1 dX11_countsNow_29 ?_
  replace h := ix_a h
  obtain ⟨hj, h⟩ := h
  refine al41 hx hb hK hW cz41 hj dX11_countsNow_32 ?_
  exact tb_iretE h hx hb hr hS hW hlk dX11_countsNow_33
def fX11_ofStone (x1 : Int32) (x2 : Int32) (M0 : Mem) : Option (Int32 × Mem) :=
  bd (fX5_stoneAt x1 M0) fun o1 => oc o1 (some ((-1 : Int32), M0)) fun a2 => if x2 = (0 : Int32) then (bd (fX5_kindNow (some a2) M0) fun b4 => some (b4, M0)) else if x2 = (1 : Int32) then (some (mgI M0 802 a2 0, M0)) else if x2 = (2 : Int32) then (bE (fX11_countsNow (some a2) M0) fun b7 M8 => some (b7, M8)) else if x2 = (3 : Int32) then (some (mgI M0 812 a2 0, M0)) else if x2 = (4 : Int32) then (some (mgI M0 807 a2 0, M0)) else if x2 = (5 : Int32) then (some (mgI M0 808 a2 0, M0)) else if x2 = (6 : Int32) then (some (mgI M0 810 a2 0, M0)) else if x2 = (7 : Int32) then (bE (fX5_far (some a2) M0) fun b14 M15 => some (b14, M15)) else if x2 = (8 : Int32) then (bd (fX5_above (mgI M0 800 a2 0) M0) fun g17 => some ((fJ13_bitCount_95d88 g17), M0)) else some ((-1 : Int32), M0)
set_option maxHeartbeats 4000000 in
set_option maxRecDepth 100000 in
theorem mX11_ofStone {l : Launch} {D : va_G} {cy : Nat → ClassId} {A : Nat → Prop} {K : KC} {nS nL : Nat} {ad : Nat → Nat → Nat} (hZk : ZOK A (ZC A K)) (x1 : Int32) (x2 : Int32) (M0 : Mem) (r : Int32) (M' : Mem) (h : fX11_ofStone x1 x2 M0 = some (r, M')) : Met l yX11_ofStone (wt yX11_ofStone cX11_ofStone 4 (some .int)) (rm 4 118) (CPre D cy A (ZC A K) (cnC nS nL) ad M0 [.ref (ad 11 0), .int x1, .int x2]) (QI D cy A (cnC nS nL) ad r M') 0 0 A := by
  refine tb_start [.ref (ad 11 0), .int x1, .int x2] [(0, .ref (ad 11 0)), (1, .int x1), (2, .int x2)] RX11 rfl (by decide +kernel) (Nat.le_of_ble_eq_true rfl) rfl (fun p e s m args below meth c hx hb hr hml hown hts hlk hW hK hZ ls hl => ?_)
  have hS : va_S A s.heap s.heap [] := va_S.rf
  unfold fX11_ofStone at h
  refine lv_aload_n hx hb dX11_ofStone_0 rfl (lv_at hl 0 rfl) ?_
  refine gtX11_10 hx hb hts hown hK hW cz11 dX11_ofStone_1 ?_
  refine lv_iload_n hx hb dX11_ofStone_4 rfl (lv_at hl 1 rfl) ?_
  replace h := bd_a h
  obtain ⟨o1, hco1, h⟩ := h
  refine tb_cVR hZk hx hb hml hown hts hK hZ hW hS [.int x1] (mX5_stoneAt (l := l) hZk x1 M0 o1 hco1) pmX5_stoneAt tw502 (Wd.recv hK hW (t := 5) (by decide) cz5 (C := RX5) (T := TX5) (N := 7) rfl) ⟨Nat.le_of_ble_eq_true rfl, Nat.le_of_ble_eq_true rfl⟩ rfl hl.1 (Nat.le_of_ble_eq_true rfl) ⟨Nat.le_refl _, Nat.le_refl _⟩ rfl dX11_ofStone_5 (fun H locs hW hS hrr => ?_)
  have ho1 := hrr
  refine tb_astore_n (lv' := [(3, rv (ad 8) o1), (0, .ref (ad 11 0)), (1, .int x1), (2, .int x2)]) hx hb dX11_ofStone_8 rfl hl (by decide) rfl (fun ls hl => ?_)
  refine tb_aload_n hx hb dX11_ofStone_9 rfl (lv_at hl 0 rfl) ?_
  refine tb_ifnonnull (tgt := 15) hx hb dX11_ofStone_10 (by decide) (fun a2 ea2 => ?_) (fun e0 => ?_)
  · replace h := oc_s ea2 h
    subst ea2
    have la2 := ho1 _ rfl
    refine lv_iload_n hx hb dX11_ofStone_15 rfl (lv_at hl 3 rfl) ?_
    by_cases c3 : x2 = (0 : Int32)
    · replace h := sh_t c3 h
      refine lv_tableIn (off := 52) (tgt := 68) hx hb dX11_ofStone_16 (by rw [c3]; decide) (by rw [c3]; decide) (by rw [c3]; rfl) (by decide) ?_
      refine lv_aload_n hx hb dX11_ofStone_68 rfl (lv_at hl 1 rfl) ?_
      refine gtX11_10 hx hb hts hown hK hW cz11 dX11_ofStone_69 ?_
      refine lv_aload_n hx hb dX11_ofStone_72 rfl (lv_at hl 0 rfl) ?_
      replace h := bd_a h
      obtain ⟨b4, hcb4, h⟩ := h
      refine tb_cVI hZk hx hb hml hown hts hK hZ hW hS [.ref (ad 8 a2)] (mX5_kindNow (l := l) hZk (some a2) M0 (fun z hz => Option.some.inj hz ▸ la2) b4 hcb4) pmX5_kindNow tw612 (Wd.recv hK hW (t := 5) (by decide) cz5 (C := RX5) (T := TX5) (N := 7) rfl) ⟨Nat.le_of_ble_eq_true rfl, Nat.le_of_ble_eq_true rfl⟩ rfl hl.1 (Nat.le_of_ble_eq_true rfl) ⟨Nat.le_refl _, Nat.le_refl _⟩ rfl dX11_ofStone_73 (fun H locs hW hS => ?_)
      exact tb_iretE h hx hb hr hS hW hlk dX11_ofStone_76
    · replace h := sh_f c3 h
      by_cases c5 : x2 = (1 : Int32)
      · replace h := sh_t c5 h
        refine lv_tableIn (off := 61) (tgt := 77) hx hb dX11_ofStone_16 (by rw [c5]; decide) (by rw [c5]; decide) (by rw [c5]; rfl) (by decide) ?_
        refine lv_aload_n hx hb dX11_ofStone_77 rfl (lv_at hl 0 rfl) ?_
        refine gtX11_128 hx hb hts hown hK hW la2 dX11_ofStone_78 ?_
        exact tb_iretE h hx hb hr hS hW hlk dX11_ofStone_81
      · replace h := sh_f c5 h
        by_cases c6 : x2 = (2 : Int32)
        · replace h := sh_t c6 h
          refine lv_tableIn (off := 66) (tgt := 82) hx hb dX11_ofStone_16 (by rw [c6]; decide) (by rw [c6]; decide) (by rw [c6]; rfl) (by decide) ?_
          refine lv_aload_n hx hb dX11_ofStone_82 rfl (lv_at hl 1 rfl) ?_
          refine lv_aload_n hx hb dX11_ofStone_83 rfl (lv_at hl 0 rfl) ?_
          replace h := bE_a h
          obtain ⟨b7, M8, hcb7, h⟩ := h
          refine tb_cVI hZk hx hb hml hown hts hK hZ hW hS [.ref (ad 8 a2)] (mX11_countsNow (l := l) hZk (some a2) M0 (fun z hz => Option.some.inj hz ▸ la2) b7 M8 hcb7) pmX11_countsNow tw620 (Wd.recv hK hW (t := 11) (by decide) cz11 (C := RX11) (T := TX11) (N := 8) rfl) ⟨Nat.le_of_ble_eq_true rfl, Nat.le_of_ble_eq_true rfl⟩ rfl hl.1 (Nat.le_of_ble_eq_true rfl) ⟨Nat.le_refl _, Nat.le_refl _⟩ rfl dX11_ofStone_84 (fun H locs hW hS => ?_)
          exact tb_iretE h hx hb hr hS hW hlk dX11_ofStone_87
        · replace h := sh_f c6 h
          by_cases c9 : x2 = (3 : Int32)
          · replace h := sh_t c9 h
            refine lv_tableIn (off := 72) (tgt := 88) hx hb dX11_ofStone_16 (by rw [c9]; decide) (by rw [c9]; decide) (by rw [c9]; rfl) (by decide) ?_
            refine lv_aload_n hx hb dX11_ofStone_88 rfl (lv_at hl 0 rfl) ?_
            refine gtX11_134 hx hb hts hown hK hW la2 dX11_ofStone_89 ?_
            exact tb_iretE h hx hb hr hS hW hlk dX11_ofStone_92
          · replace h := sh_f c9 h
            by_cases c10 : x2 = (4 : Int32)
            · replace h := sh_t c10 h
              refine lv_tableIn (off := 77) (tgt := 93) hx hb dX11_ofStone_16 (by rw [c10]; decide) (by rw [c10]; decide) (by rw [c10]; rfl) (by decide) ?_
              refine lv_aload_n hx hb dX11_ofStone_93 rfl (lv_at hl 0 rfl) ?_
              refine gtX11_135 hx hb hts hown hK hW la2 dX11_ofStone_94 ?_
              exact tb_iretE h hx hb hr hS hW hlk dX11_ofStone_97
            · replace h := sh_f c10 h
              by_cases c11 : x2 = (5 : Int32)
              · replace h := sh_t c11 h
                refine lv_tableIn (off := 82) (tgt := 98) hx hb dX11_ofStone_16 (by rw [c11]; decide) (by rw [c11]; decide) (by rw [c11]; rfl) (by decide) ?_
                refine lv_aload_n hx hb dX11_ofStone_98 rfl (lv_at hl 0 rfl) ?_
                refine gtX11_138 hx hb hts hown hK hW la2 dX11_ofStone_99 ?_
                exact tb_iretE h hx hb hr hS hW hlk dX11_ofStone_102
              · replace h := sh_f c11 h
                by_cases c12 : x2 = (6 : Int32)
                · replace h := sh_t c12 h
                  refine lv_tableIn (off := 87) (tgt := 103) hx hb dX11_ofStone_16 (by rw [c12]; decide) (by rw [c12]; decide) (by rw [c12]; rfl) (by decide) ?_
                  refine lv_aload_n hx hb dX11_ofStone_103 rfl (lv_at hl 0 rfl) ?_
                  refine gtX11_141 hx hb hts hown hK hW la2 dX11_ofStone_104 ?_
                  exact tb_iretE h hx hb hr hS hW hlk dX11_ofStone_107
                · replace h := sh_f c12 h
                  by_cases c13 : x2 = (7 : Int32)
                  · replace h := sh_t c13 h
                    refine lv_tableIn (off := 92) (tgt := 108) hx hb dX11_ofStone_16 (by rw [c13]; decide) (by rw [c13]; decide) (by rw [c13]; rfl) (by decide) ?_
                    refine lv_aload_n hx hb dX11_ofStone_108 rfl (lv_at hl 1 rfl) ?_
                    refine gtX11_10 hx hb hts hown hK hW cz11 dX11_ofStone_109 ?_
                    refine lv_aload_n hx hb dX11_ofStone_112 rfl (lv_at hl 0 rfl) ?_
                    replace h := bE_a h
                    obtain ⟨b14, M15, hcb14, h⟩ := h
                    refine tb_cVI hZk hx hb hml hown hts hK hZ hW hS [.ref (ad 8 a2)] (mX5_far (l := l) hZk (some a2) M0 (fun z hz => Option.some.inj hz ▸ la2) b14 M15 hcb14) pmX5_far tw647 (Wd.recv hK hW (t := 5) (by decide) cz5 (C := RX5) (T := TX5) (N := 7) rfl) ⟨Nat.le_of_ble_eq_true rfl, Nat.le_of_ble_eq_true rfl⟩ rfl hl.1 (Nat.le_of_ble_eq_true rfl) ⟨Nat.le_refl _, Nat.le_refl _⟩ rfl dX11_ofStone_113 (fun H locs hW hS => ?_)
                    exact tb_iretE h hx hb hr hS hW hlk dX11_ofStone_116
                  · replace h := sh_f c13 h
                    by_cases c16 : x2 = (8 : Int32)
                    · replace h := sh_t c16 h
                      refine lv_tableIn (off := 101) (tgt := 117) hx hb dX11_ofStone_16 (by rw [c16]; decide) (by rw [c16]; decide) (by rw [c16]; rfl) (by decide) ?_
                      refine lv_aload_n hx hb dX11_ofStone_117 rfl (lv_at hl 1 rfl) ?_
                      refine gtX11_10 hx hb hts hown hK hW cz11 dX11_ofStone_118 ?_
                      refine lv_aload_n hx hb dX11_ofStone_121 rfl (lv_at hl 0 rfl) ?_
                      refine gtX11_147 hx hb hts hown hK hW la2 dX11_ofStone_122 ?_
                      replace h := bd_a h
                      obtain ⟨g17, hcg17, h⟩ := h
                      refine tb_cVL hZk hx hb hml hown hts hK hZ hW hS [.int (mgI M0 800 a2 0)] (mX5_above (l := l) hZk (mgI M0 800 a2 0) M0 g17 hcg17) pmX5_above tw658 (Wd.recv hK hW (t := 5) (by decide) cz5 (C := RX5) (T := TX5) (N := 7) rfl) ⟨Nat.le_of_ble_eq_true rfl, Nat.le_of_ble_eq_true rfl⟩ rfl hl.1 (Nat.le_of_ble_eq_true rfl) ⟨Nat.le_refl _, Nat.le_refl _⟩ rfl dX11_ofStone_125 (fun H locs hW hS => ?_)
                      refine tb_cSI hZk hx hb hml hown hts hK hZ hW hS [.long g17] (mJ13_bitCount_95d88 (l := l) hZk g17 M0 (fJ13_bitCount_95d88 g17) rfl) pmJ13_bitCount_95d88 tw662 ⟨Nat.le_of_ble_eq_true rfl, Nat.le_of_ble_eq_true rfl⟩ rfl hl.1 (Nat.le_of_ble_eq_true rfl) ⟨Nat.le_refl _, Nat.le_refl _⟩ rfl dX11_ofStone_128 (fun H locs hW hS => ?_)
                      exact tb_iretE h hx hb hr hS hW hlk dX11_ofStone_131
                    · replace h := sh_f c16 h
                      refine lv_tableOut (tgt := 132) hx hb dX11_ofStone_16 (sw_out x2 (by decide) (fun z h1 h2 => by
                        rcases (show z = 0 ∨ z = 1 ∨ z = 2 ∨ z = 3 ∨ z = 4 ∨ z = 5 ∨ z = 6 ∨ z = 7 ∨ z = 8 by omega) with rfl | rfl | rfl | rfl | rfl | rfl | rfl | rfl | rfl <;> first | exact fun e => c3 (Int32.toInt_inj.mp (e.trans (by decide))) | exact fun e => c5 (Int32.toInt_inj.mp (e.trans (by decide))) | exact fun e => c6 (Int32.toInt_inj.mp (e.trans (by decide))) | exact fun e => c9 (Int32.toInt_inj.mp (e.trans (by decide))) | exact fun e => c10 (Int32.toInt_inj.mp (e.trans (by decide))) | exact fun e => c11 (Int32.toInt_inj.mp (e.trans (by decide))) | exact fun e => c12 (Int32.toInt_inj.mp (e.trans (by decide))) | exact fun e => c13 (Int32.toInt_inj.mp (e.trans (by decide))) | exact fun e => c16 (Int32.toInt_inj.mp (e.trans (by decide))))) (by decide) ?_
                      refine lv_iconst (v := (-1 : Int32)) hx hb dX11_ofStone_132 (by decide) ?_
                      exact tb_iretE h hx hb hr hS hW hlk dX11_ofStone_133
  · replace h := oc_n e0 h
    subst e0
    refine lv_iconst (v := (-1 : Int32)) hx hb dX11_ofStone_13 (by decide) ?_
    exact tb_iretE h hx hb hr hS hW hlk dX11_ofStone_14
def fX11_worth (x1 : Int32) (M0 : Mem) : Option (Int32 × Mem) :=
  bd (fX5_stoneAt x1 M0) fun o1 => oc o1 (some ((-2000000000 : Int32), M0)) fun a2 => bE (fX9_work (0 : Int64) (0 : Int64) ((mgL M0 815 a2 0) ||| (fX11_bit (mgI M0 800 a2 0))) M0) fun u3 M4 => ix (mgI M4 800 a2 0) 64 <| some (mgI M4 4200 0 (mgI M4 800 a2 0).toNatClampNeg, M4)
set_option maxHeartbeats 4000000 in
set_option maxRecDepth 100000 in
theorem mX11_worth {l : Launch} {D : va_G} {cy : Nat → ClassId} {A : Nat → Prop} {K : KC} {nS nL : Nat} {ad : Nat → Nat → Nat} (hZk : ZOK A (ZC A K)) (x1 : Int32) (M0 : Mem) (r : Int32) (M' : Mem) (h : fX11_worth x1 M0 = some (r, M')) : Met l yX11_worth (wt yX11_worth cX11_worth 3 (some .int)) (rm 3 97) (CPre D cy A (ZC A K) (cnC nS nL) ad M0 [.ref (ad 11 0), .int x1]) (QI D cy A (cnC nS nL) ad r M') 0 0 A := by
  refine tb_start [.ref (ad 11 0), .int x1] [(0, .ref (ad 11 0)), (1, .int x1)] RX11 rfl (by decide +kernel) (Nat.le_of_ble_eq_true rfl) rfl (fun p e s m args below meth c hx hb hr hml hown hts hlk hW hK hZ ls hl => ?_)
  have hS : va_S A s.heap s.heap [] := va_S.rf
  unfold fX11_worth at h
  refine lv_aload_n hx hb dX11_worth_0 rfl (lv_at hl 0 rfl) ?_
  refine gtX11_10 hx hb hts hown hK hW cz11 dX11_worth_1 ?_
  refine lv_iload_n hx hb dX11_worth_4 rfl (lv_at hl 1 rfl) ?_
  replace h := bd_a h
  obtain ⟨o1, hco1, h⟩ := h
  refine tb_cVR hZk hx hb hml hown hts hK hZ hW hS [.int x1] (mX5_stoneAt (l := l) hZk x1 M0 o1 hco1) pmX5_stoneAt tw502 (Wd.recv hK hW (t := 5) (by decide) cz5 (C := RX5) (T := TX5) (N := 7) rfl) ⟨Nat.le_of_ble_eq_true rfl, Nat.le_of_ble_eq_true rfl⟩ rfl hl.1 (Nat.le_of_ble_eq_true rfl) ⟨Nat.le_refl _, Nat.le_refl _⟩ rfl dX11_worth_5 (fun H locs hW hS hrr => ?_)
  have ho1 := hrr
  refine tb_astore_n (lv' := [(2, rv (ad 8) o1), (0, .ref (ad 11 0)), (1, .int x1)]) hx hb dX11_worth_8 rfl hl (by decide) rfl (fun ls hl => ?_)
  refine tb_aload_n hx hb dX11_worth_9 rfl (lv_at hl 0 rfl) ?_
  refine tb_ifnonnull (tgt := 16) hx hb dX11_worth_10 (by decide) (fun a2 ea2 => ?_) (fun e0 => ?_)
  · replace h := oc_s ea2 h
    subst ea2
    have la2 := ho1 _ rfl
    refine lv_aload_n hx hb dX11_worth_16 rfl (lv_at hl 1 rfl) ?_
    refine gtX11_28 hx hb hts hown hK hW cz11 dX11_worth_17 ?_
    refine lv_lconst (v := (0 : Int64)) hx hb dX11_worth_20 (by decide) ?_
    refine lv_lconst (v := (0 : Int64)) hx hb dX11_worth_21 (by decide) ?_
    refine lv_aload_n hx hb dX11_worth_22 rfl (lv_at hl 0 rfl) ?_
    refine gtX11_161 hx hb hts hown hK hW la2 dX11_worth_23 ?_
    refine lv_aload_n hx hb dX11_worth_26 rfl (lv_at hl 0 rfl) ?_
    refine gtX11_147 hx hb hts hown hK hW la2 dX11_worth_27 ?_
    refine tb_cSL hZk hx hb hml hown hts hK hZ hW hS [.int (mgI M0 800 a2 0)] (mX11_bit (l := l) hZk (mgI M0 800 a2 0) M0 (fX11_bit (mgI M0 800 a2 0)) rfl) pmX11_bit tw624 ⟨Nat.le_of_ble_eq_true rfl, Nat.le_of_ble_eq_true rfl⟩ rfl hl.1 (Nat.le_of_ble_eq_true rfl) ⟨Nat.le_refl _, Nat.le_refl _⟩ rfl dX11_worth_30 (fun H locs hW hS => ?_)
    refine lv_lor hx hb dX11_worth_33 ?_
    replace h := bE_a h
    obtain ⟨u3, M4, hcu3, h⟩ := h
    refine tb_cVV hZk hx hb hml hown hts hK hZ hW hS [.long (0 : Int64), .long (0 : Int64), .long ((mgL M0 815 a2 0) ||| (fX11_bit (mgI M0 800 a2 0)))] (mX9_work (l := l) hZk (0 : Int64) (0 : Int64) ((mgL M0 815 a2 0) ||| (fX11_bit (mgI M0 800 a2 0))) M0 u3 M4 hcu3) pmX9_work tw625 (Wd.recv hK hW (t := 9) (by decide) cz9 (C := RX9) (T := TX9) (N := 4) rfl) ⟨Nat.le_of_ble_eq_true rfl, Nat.le_of_ble_eq_true rfl⟩ rfl hl.1 (Nat.le_of_ble_eq_true rfl) ⟨Nat.le_refl _, Nat.le_refl _⟩ rfl dX11_worth_34 (fun H locs hW hS => ?_)
    refine lv_aload_n hx hb dX11_worth_37 rfl (lv_at hl 1 rfl) ?_
    refine gtX11_28 hx hb hts hown hK hW cz11 dX11_worth_38 ?_
    refine gtX11_172 hx hb hts hown hK hW cz9 dX11_worth_41 ?_
    refine lv_aload_n hx hb dX11_worth_44 rfl (lv_at hl 0 rfl) ?_
    refine gtX11_147 hx hb hts hown hK hW la2 dX11_worth_45 ?_
    replace h := ix_a h
    obtain ⟨hj, h⟩ := h
    refine al42 hx hb hK hW cz42 hj dX11_worth_48 ?_
    exact tb_iretE h hx hb hr hS hW hlk dX11_worth_49
  · replace h := oc_n e0 h
    subst e0
    refine lv_ldc hx hb hown (hts _ tw672) dX11_worth_13 ?_
    exact tb_iretE h hx hb hr hS hW hlk dX11_worth_15
def fX11_says (x1 : Int32) (M0 : Mem) : Option (Int32 × Mem) :=
  bd (fX5_stoneAt x1 M0) fun o1 => oc o1 (some ((-1 : Int32), M0)) fun a2 => if (mgI M0 801 a2 0) = (3 : Int32) then (bE (fX9_saysWith (some a2) (0 : Int64) M0) fun b4 M5 => if b4 = 0 then (some ((0 : Int32), M5)) else (some ((1 : Int32), M5))) else (some ((-1 : Int32), M0))
set_option maxHeartbeats 4000000 in
set_option maxRecDepth 100000 in
theorem mX11_says {l : Launch} {D : va_G} {cy : Nat → ClassId} {A : Nat → Prop} {K : KC} {nS nL : Nat} {ad : Nat → Nat → Nat} (hZk : ZOK A (ZC A K)) (x1 : Int32) (M0 : Mem) (r : Int32) (M' : Mem) (h : fX11_says x1 M0 = some (r, M')) : Met l yX11_says (wt yX11_says cX11_says 3 (some .int)) (rm 4 120) (CPre D cy A (ZC A K) (cnC nS nL) ad M0 [.ref (ad 11 0), .int x1]) (QI D cy A (cnC nS nL) ad r M') 0 0 A := by
  refine tb_start [.ref (ad 11 0), .int x1] [(0, .ref (ad 11 0)), (1, .int x1)] RX11 rfl (by decide +kernel) (Nat.le_of_ble_eq_true rfl) rfl (fun p e s m args below meth c hx hb hr hml hown hts hlk hW hK hZ ls hl => ?_)
  have hS : va_S A s.heap s.heap [] := va_S.rf
  unfold fX11_says at h
  refine lv_aload_n hx hb dX11_says_0 rfl (lv_at hl 0 rfl) ?_
  refine gtX11_10 hx hb hts hown hK hW cz11 dX11_says_1 ?_
  refine lv_iload_n hx hb dX11_says_4 rfl (lv_at hl 1 rfl) ?_
  replace h := bd_a h
  obtain ⟨o1, hco1, h⟩ := h
  refine tb_cVR hZk hx hb hml hown hts hK hZ hW hS [.int x1] (mX5_stoneAt (l := l) hZk x1 M0 o1 hco1) pmX5_stoneAt tw502 (Wd.recv hK hW (t := 5) (by decide) cz5 (C := RX5) (T := TX5) (N := 7) rfl) ⟨Nat.le_of_ble_eq_true rfl, Nat.le_of_ble_eq_true rfl⟩ rfl hl.1 (Nat.le_of_ble_eq_true rfl) ⟨Nat.le_refl _, Nat.le_refl _⟩ rfl dX11_says_5 (fun H locs hW hS hrr => ?_)
  have ho1 := hrr
  refine tb_astore_n (lv' := [(2, rv (ad 8) o1), (0, .ref (ad 11 0)), (1, .int x1)]) hx hb dX11_says_8 rfl hl (by decide) rfl (fun ls hl => ?_)
  refine tb_aload_n hx hb dX11_says_9 rfl (lv_at hl 0 rfl) ?_
  refine tb_ifnull (tgt := 21) hx hb dX11_says_10 (by decide) (fun e0 => ?_) (fun a2 ea2 => ?_)
  · replace h := oc_n e0 h
    subst e0
    refine lv_iconst (v := (-1 : Int32)) hx hb dX11_says_21 (by decide) ?_
    exact tb_iretE h hx hb hr hS hW hlk dX11_says_22
  · replace h := oc_s ea2 h
    subst ea2
    have la2 := ho1 _ rfl
    refine lv_aload_n hx hb dX11_says_13 rfl (lv_at hl 0 rfl) ?_
    refine gtX11_103 hx hb hts hown hK hW la2 dX11_says_14 ?_
    refine lv_iconst (v := (3 : Int32)) hx hb dX11_says_17 (by decide) ?_
    refine lv_icmp_eq (tgt := 23) hx hb dX11_says_18 (by decide) (fun c3 => ?_) (fun c3 => ?_)
    · replace h := sh_t c3 h
      refine lv_aload_n hx hb dX11_says_23 rfl (lv_at hl 1 rfl) ?_
      refine gtX11_28 hx hb hts hown hK hW cz11 dX11_says_24 ?_
      refine lv_aload_n hx hb dX11_says_27 rfl (lv_at hl 0 rfl) ?_
      refine lv_lconst (v := (0 : Int64)) hx hb dX11_says_28 (by decide) ?_
      replace h := bE_a h
      obtain ⟨b4, M5, hcb4, h⟩ := h
      refine tb_cVZ hZk hx hb hml hown hts hK hZ hW hS [.ref (ad 8 a2), .long (0 : Int64)] (mX9_saysWith (l := l) hZk (some a2) (0 : Int64) M0 (fun z hz => Option.some.inj hz ▸ la2) b4 M5 hcb4) pmX9_saysWith tw677 (Wd.recv hK hW (t := 9) (by decide) cz9 (C := RX9) (T := TX9) (N := 4) rfl) ⟨Nat.le_of_ble_eq_true rfl, Nat.le_of_ble_eq_true rfl⟩ rfl hl.1 (Nat.le_of_ble_eq_true rfl) ⟨Nat.le_refl _, Nat.le_refl _⟩ rfl dX11_says_29 (fun H locs hW hS hzz => ?_)
      have hzb4 := hzz
      refine lv_if_eq (tgt := 39) hx hb dX11_says_32 (by decide) (fun c6 => ?_) (fun c6 => ?_)
      · replace h := sh_t c6 h
        refine lv_iconst (v := (0 : Int32)) hx hb dX11_says_39 (by decide) ?_
        exact tb_iretE h hx hb hr hS hW hlk dX11_says_40
      · replace h := sh_f c6 h
        refine lv_iconst (v := (1 : Int32)) hx hb dX11_says_35 (by decide) ?_
        refine lv_goto (tgt := 40) hx hb dX11_says_36 (by decide) ?_
        exact tb_iretE h hx hb hr hS hW hlk dX11_says_40
    · replace h := sh_f c3 h
      refine lv_iconst (v := (-1 : Int32)) hx hb dX11_says_21 (by decide) ?_
      exact tb_iretE h hx hb hr hS hW hlk dX11_says_22
def fX11_ofLine (x1 : Int32) (x2 : Int32) (M0 : Mem) : Option Int32 :=
  bd (fX5_lineAt x1 M0) fun o1 => oc o1 (some (-1 : Int32)) fun a2 => if x2 = (0 : Int32) then (some (mgI M0 400 a2 0)) else if x2 = (1 : Int32) then (some (mgI M0 401 a2 0)) else if x2 = (2 : Int32) then (some (mgI M0 403 a2 0)) else if x2 = (3 : Int32) then (some (mgI M0 404 a2 0)) else if x2 = (4 : Int32) then (if (mgI M0 405 a2 0) = 0 then (some (0 : Int32)) else (some (1 : Int32))) else some (-1 : Int32)
set_option maxHeartbeats 4000000 in
set_option maxRecDepth 100000 in
theorem mX11_ofLine {l : Launch} {D : va_G} {cy : Nat → ClassId} {A : Nat → Prop} {K : KC} {nS nL : Nat} {ad : Nat → Nat → Nat} (hZk : ZOK A (ZC A K)) (x1 : Int32) (x2 : Int32) (M0 : Mem) (r : Int32) (h : fX11_ofLine x1 x2 M0 = some r) : Met l yX11_ofLine (wt yX11_ofLine cX11_ofLine 4 (some .int)) (rm 1 21) (CPre D cy A (ZC A K) (cnC nS nL) ad M0 [.ref (ad 11 0), .int x1, .int x2]) (QI D cy A (cnC nS nL) ad r M0) 0 0 A := by
  refine tb_start [.ref (ad 11 0), .int x1, .int x2] [(0, .ref (ad 11 0)), (1, .int x1), (2, .int x2)] RX11 rfl (by decide +kernel) (Nat.le_of_ble_eq_true rfl) rfl (fun p e s m args below meth c hx hb hr hml hown hts hlk hW hK hZ ls hl => ?_)
  have hS : va_S A s.heap s.heap [] := va_S.rf
  unfold fX11_ofLine at h
  refine lv_aload_n hx hb dX11_ofLine_0 rfl (lv_at hl 0 rfl) ?_
  refine gtX11_10 hx hb hts hown hK hW cz11 dX11_ofLine_1 ?_
  refine lv_iload_n hx hb dX11_ofLine_4 rfl (lv_at hl 1 rfl) ?_
  replace h := bd_a h
  obtain ⟨o1, hco1, h⟩ := h
  refine tb_cVR hZk hx hb hml hown hts hK hZ hW hS [.int x1] (mX5_lineAt (l := l) hZk x1 M0 o1 hco1) pmX5_lineAt tw691 (Wd.recv hK hW (t := 5) (by decide) cz5 (C := RX5) (T := TX5) (N := 7) rfl) ⟨Nat.le_of_ble_eq_true rfl, Nat.le_of_ble_eq_true rfl⟩ rfl hl.1 (Nat.le_of_ble_eq_true rfl) ⟨Nat.le_refl _, Nat.le_refl _⟩ rfl dX11_ofLine_5 (fun H locs hW hS hrr => ?_)
  have ho1 := hrr
  refine tb_astore_n (lv' := [(3, rv (ad 4) o1), (0, .ref (ad 11 0)), (1, .int x1), (2, .int x2)]) hx hb dX11_ofLine_8 rfl hl (by decide) rfl (fun ls hl => ?_)
  refine tb_aload_n hx hb dX11_ofLine_9 rfl (lv_at hl 0 rfl) ?_
  refine tb_ifnonnull (tgt := 15) hx hb dX11_ofLine_10 (by decide) (fun a2 ea2 => ?_) (fun e0 => ?_)
  · replace h := oc_s ea2 h
    subst ea2
    have la2 := ho1 _ rfl
    refine lv_iload_n hx hb dX11_ofLine_15 rfl (lv_at hl 3 rfl) ?_
    by_cases c3 : x2 = (0 : Int32)
    · replace h := sh_t c3 h
      refine lv_tableIn (off := 36) (tgt := 52) hx hb dX11_ofLine_16 (by rw [c3]; decide) (by rw [c3]; decide) (by rw [c3]; rfl) (by decide) ?_
      refine lv_aload_n hx hb dX11_ofLine_52 rfl (lv_at hl 0 rfl) ?_
      refine gtX11_184 hx hb hts hown hK hW la2 dX11_ofLine_53 ?_
      exact tb_iretO h hx hb hr hS hW hlk dX11_ofLine_56
    · replace h := sh_f c3 h
      by_cases c4 : x2 = (1 : Int32)
      · replace h := sh_t c4 h
        refine lv_tableIn (off := 41) (tgt := 57) hx hb dX11_ofLine_16 (by rw [c4]; decide) (by rw [c4]; decide) (by rw [c4]; rfl) (by decide) ?_
        refine lv_aload_n hx hb dX11_ofLine_57 rfl (lv_at hl 0 rfl) ?_
        refine gtX11_189 hx hb hts hown hK hW la2 dX11_ofLine_58 ?_
        exact tb_iretO h hx hb hr hS hW hlk dX11_ofLine_61
      · replace h := sh_f c4 h
        by_cases c5 : x2 = (2 : Int32)
        · replace h := sh_t c5 h
          refine lv_tableIn (off := 46) (tgt := 62) hx hb dX11_ofLine_16 (by rw [c5]; decide) (by rw [c5]; decide) (by rw [c5]; rfl) (by decide) ?_
          refine lv_aload_n hx hb dX11_ofLine_62 rfl (lv_at hl 0 rfl) ?_
          refine gtX11_192 hx hb hts hown hK hW la2 dX11_ofLine_63 ?_
          exact tb_iretO h hx hb hr hS hW hlk dX11_ofLine_66
        · replace h := sh_f c5 h
          by_cases c6 : x2 = (3 : Int32)
          · replace h := sh_t c6 h
            refine lv_tableIn (off := 51) (tgt := 67) hx hb dX11_ofLine_16 (by rw [c6]; decide) (by rw [c6]; decide) (by rw [c6]; rfl) (by decide) ?_
            refine lv_aload_n hx hb dX11_ofLine_67 rfl (lv_at hl 0 rfl) ?_
            refine gtX11_195 hx hb hts hown hK hW la2 dX11_ofLine_68 ?_
            exact tb_iretO h hx hb hr hS hW hlk dX11_ofLine_71
          · replace h := sh_f c6 h
            by_cases c7 : x2 = (4 : Int32)
            · replace h := sh_t c7 h
              refine lv_tableIn (off := 56) (tgt := 72) hx hb dX11_ofLine_16 (by rw [c7]; decide) (by rw [c7]; decide) (by rw [c7]; rfl) (by decide) ?_
              refine lv_aload_n hx hb dX11_ofLine_72 rfl (lv_at hl 0 rfl) ?_
              refine gtX11_198 hx hb hts hown hK hW la2 dX11_ofLine_73 ?_
              refine lv_if_eq (tgt := 83) hx hb dX11_ofLine_76 (by decide) (fun c8 => ?_) (fun c8 => ?_)
              · replace h := sh_t c8 h
                refine lv_iconst (v := (0 : Int32)) hx hb dX11_ofLine_83 (by decide) ?_
                exact tb_iretO h hx hb hr hS hW hlk dX11_ofLine_84
              · replace h := sh_f c8 h
                refine lv_iconst (v := (1 : Int32)) hx hb dX11_ofLine_79 (by decide) ?_
                refine lv_goto (tgt := 84) hx hb dX11_ofLine_80 (by decide) ?_
                exact tb_iretO h hx hb hr hS hW hlk dX11_ofLine_84
            · replace h := sh_f c7 h
              refine lv_tableOut (tgt := 85) hx hb dX11_ofLine_16 (sw_out x2 (by decide) (fun z h1 h2 => by
                rcases (show z = 0 ∨ z = 1 ∨ z = 2 ∨ z = 3 ∨ z = 4 by omega) with rfl | rfl | rfl | rfl | rfl <;> first | exact fun e => c3 (Int32.toInt_inj.mp (e.trans (by decide))) | exact fun e => c4 (Int32.toInt_inj.mp (e.trans (by decide))) | exact fun e => c5 (Int32.toInt_inj.mp (e.trans (by decide))) | exact fun e => c6 (Int32.toInt_inj.mp (e.trans (by decide))) | exact fun e => c7 (Int32.toInt_inj.mp (e.trans (by decide))))) (by decide) ?_
              refine lv_iconst (v := (-1 : Int32)) hx hb dX11_ofLine_85 (by decide) ?_
              exact tb_iretO h hx hb hr hS hW hlk dX11_ofLine_86
  · replace h := oc_n e0 h
    subst e0
    refine lv_iconst (v := (-1 : Int32)) hx hb dX11_ofLine_13 (by decide) ?_
    exact tb_iretO h hx hb hr hS hW hlk dX11_ofLine_14
def fX11_isWeight (x0 : Int32) : Int32 :=
  if x0 < (1 : Int32) then ((0 : Int32)) else (if (99 : Int32) < x0 then ((0 : Int32)) else ((1 : Int32)))
set_option maxHeartbeats 4000000 in
set_option maxRecDepth 100000 in
theorem mX11_isWeight {l : Launch} {D : va_G} {cy : Nat → ClassId} {A : Nat → Prop} {K : KC} {nS nL : Nat} {ad : Nat → Nat → Nat} (hZk : ZOK A (ZC A K)) (x0 : Int32) (M0 : Mem) (r : Int32) (h : fX11_isWeight x0 = r) : Met l yX11_isWeight (wt yX11_isWeight cX11_isWeight 1 (some .boolean)) (rm 0 0) (CPre D cy A (ZC A K) (cnC nS nL) ad M0 [.int x0]) (QZ D cy A (cnC nS nL) ad r M0) 0 0 A := by
  refine tb_start [.int x0] [(0, .int x0)] RX11 rfl (by decide +kernel) (Nat.le_of_ble_eq_true rfl) rfl (fun p e s m args below meth c hx hb hr hml hown hts hlk hW hK hZ ls hl => ?_)
  have hS : va_S A s.heap s.heap [] := va_S.rf
  unfold fX11_isWeight at h
  refine lv_iload_n hx hb dX11_isWeight_0 rfl (lv_at hl 0 rfl) ?_
  refine lv_iconst (v := (1 : Int32)) hx hb dX11_isWeight_1 (by decide) ?_
  refine lv_icmp_lt (tgt := 15) hx hb dX11_isWeight_2 (by decide) (fun c1 => ?_) (fun c1 => ?_)
  · replace h := sh_t c1 h
    refine lv_iconst (v := (0 : Int32)) hx hb dX11_isWeight_15 (by decide) ?_
    exact tb_zretP h hx hb hr hS hW hlk (by decide) dX11_isWeight_16
  · replace h := sh_f c1 h
    refine lv_iload_n hx hb dX11_isWeight_5 rfl (lv_at hl 0 rfl) ?_
    refine lv_bipush (v := (99 : Int32)) hx hb dX11_isWeight_6 (by decide) ?_
    refine lv_icmp_gt (tgt := 15) hx hb dX11_isWeight_8 (by decide) (fun c2 => ?_) (fun c2 => ?_)
    · replace h := sh_t c2 h
      refine lv_iconst (v := (0 : Int32)) hx hb dX11_isWeight_15 (by decide) ?_
      exact tb_zretP h hx hb hr hS hW hlk (by decide) dX11_isWeight_16
    · replace h := sh_f c2 h
      refine lv_iconst (v := (1 : Int32)) hx hb dX11_isWeight_11 (by decide) ?_
      refine lv_goto (tgt := 16) hx hb dX11_isWeight_12 (by decide) ?_
      exact tb_zretP h hx hb hr hS hW hlk (by decide) dX11_isWeight_16
def fX11_isSense (x0 : Int32) : Int32 :=
  if x0 < 0 then ((0 : Int32)) else (if (2 : Int32) < x0 then ((0 : Int32)) else ((1 : Int32)))
set_option maxHeartbeats 4000000 in
set_option maxRecDepth 100000 in
theorem mX11_isSense {l : Launch} {D : va_G} {cy : Nat → ClassId} {A : Nat → Prop} {K : KC} {nS nL : Nat} {ad : Nat → Nat → Nat} (hZk : ZOK A (ZC A K)) (x0 : Int32) (M0 : Mem) (r : Int32) (h : fX11_isSense x0 = r) : Met l yX11_isSense (wt yX11_isSense cX11_isSense 1 (some .boolean)) (rm 0 0) (CPre D cy A (ZC A K) (cnC nS nL) ad M0 [.int x0]) (QZ D cy A (cnC nS nL) ad r M0) 0 0 A := by
  refine tb_start [.int x0] [(0, .int x0)] RX11 rfl (by decide +kernel) (Nat.le_of_ble_eq_true rfl) rfl (fun p e s m args below meth c hx hb hr hml hown hts hlk hW hK hZ ls hl => ?_)
  have hS : va_S A s.heap s.heap [] := va_S.rf
  unfold fX11_isSense at h
  refine lv_iload_n hx hb dX11_isSense_0 rfl (lv_at hl 0 rfl) ?_
  refine lv_if_lt (tgt := 13) hx hb dX11_isSense_1 (by decide) (fun c1 => ?_) (fun c1 => ?_)
  · replace h := sh_t c1 h
    refine lv_iconst (v := (0 : Int32)) hx hb dX11_isSense_13 (by decide) ?_
    exact tb_zretP h hx hb hr hS hW hlk (by decide) dX11_isSense_14
  · replace h := sh_f c1 h
    refine lv_iload_n hx hb dX11_isSense_4 rfl (lv_at hl 0 rfl) ?_
    refine lv_iconst (v := (2 : Int32)) hx hb dX11_isSense_5 (by decide) ?_
    refine lv_icmp_gt (tgt := 13) hx hb dX11_isSense_6 (by decide) (fun c2 => ?_) (fun c2 => ?_)
    · replace h := sh_t c2 h
      refine lv_iconst (v := (0 : Int32)) hx hb dX11_isSense_13 (by decide) ?_
      exact tb_zretP h hx hb hr hS hW hlk (by decide) dX11_isSense_14
    · replace h := sh_f c2 h
      refine lv_iconst (v := (1 : Int32)) hx hb dX11_isSense_9 (by decide) ?_
      refine lv_goto (tgt := 14) hx hb dX11_isSense_10 (by decide) ?_
      exact tb_zretP h hx hb hr hS hW hlk (by decide) dX11_isSense_14
def fX11_change (x1 : Int32) (x2 : Int32) (x3 : Int32) (M0 : Mem) : Option (Int32 × Mem) :=
  bd (fX5_lineAt x1 M0) fun o1 => oc o1 (some ((-1 : Int32), M0)) fun a2 => if x2 = 0 then (nm (fX11_isWeight x3) fun b14 => if b14 = 0 then (if x2 = (1 : Int32) then (nm (fX11_isSense x3) fun b24 => if b24 = 0 then (some ((-1 : Int32), M0)) else (if x2 = 0 then (nm (mgI M0 403 a2 0) fun v30 => bE (fX1_make x2 x1 v30 x3 M0) fun u31 M32 => some (v30, M32)) else (nm (mgI M0 404 a2 0) fun v27 => bE (fX1_make x2 x1 v27 x3 M0) fun u28 M29 => some (v27, M29)))) else (some ((-1 : Int32), M0))) else (if x2 = 0 then (nm (mgI M0 403 a2 0) fun v20 => bE (fX1_make x2 x1 v20 x3 M0) fun u21 M22 => some (v20, M22)) else (nm (mgI M0 404 a2 0) fun v17 => bE (fX1_make x2 x1 v17 x3 M0) fun u18 M19 => some (v17, M19)))) else (if x2 = (1 : Int32) then (nm (fX11_isSense x3) fun b5 => if b5 = 0 then (some ((-1 : Int32), M0)) else (if x2 = 0 then (nm (mgI M0 403 a2 0) fun v11 => bE (fX1_make x2 x1 v11 x3 M0) fun u12 M13 => some (v11, M13)) else (nm (mgI M0 404 a2 0) fun v8 => bE (fX1_make x2 x1 v8 x3 M0) fun u9 M10 => some (v8, M10)))) else (some ((-1 : Int32), M0)))
set_option maxHeartbeats 4000000 in
set_option maxRecDepth 100000 in
theorem mX11_change {l : Launch} {D : va_G} {cy : Nat → ClassId} {A : Nat → Prop} {K : KC} {nS nL : Nat} {ad : Nat → Nat → Nat} (hZk : ZOK A (ZC A K)) (x1 : Int32) (x2 : Int32) (x3 : Int32) (M0 : Mem) (r : Int32) (M' : Mem) (h : fX11_change x1 x2 x3 M0 = some (r, M')) : Met l yX11_change (wt yX11_change cX11_change 6 (some .int)) (rm 3 69) (CPre D cy A (ZC A K) (cnC nS nL) ad M0 [.ref (ad 11 0), .int x1, .int x2, .int x3]) (QI D cy A (cnC nS nL) ad r M') 0 0 A := by
  refine tb_start [.ref (ad 11 0), .int x1, .int x2, .int x3] [(0, .ref (ad 11 0)), (1, .int x1), (2, .int x2), (3, .int x3)] RX11 rfl (by decide +kernel) (Nat.le_of_ble_eq_true rfl) rfl (fun p e s m args below meth c hx hb hr hml hown hts hlk hW hK hZ ls hl => ?_)
  have hS : va_S A s.heap s.heap [] := va_S.rf
  unfold fX11_change at h
  refine lv_aload_n hx hb dX11_change_0 rfl (lv_at hl 0 rfl) ?_
  refine gtX11_10 hx hb hts hown hK hW cz11 dX11_change_1 ?_
  refine lv_iload_n hx hb dX11_change_4 rfl (lv_at hl 1 rfl) ?_
  replace h := bd_a h
  obtain ⟨o1, hco1, h⟩ := h
  refine tb_cVR hZk hx hb hml hown hts hK hZ hW hS [.int x1] (mX5_lineAt (l := l) hZk x1 M0 o1 hco1) pmX5_lineAt tw691 (Wd.recv hK hW (t := 5) (by decide) cz5 (C := RX5) (T := TX5) (N := 7) rfl) ⟨Nat.le_of_ble_eq_true rfl, Nat.le_of_ble_eq_true rfl⟩ rfl hl.1 (Nat.le_of_ble_eq_true rfl) ⟨Nat.le_refl _, Nat.le_refl _⟩ rfl dX11_change_5 (fun H locs hW hS hrr => ?_)
  have ho1 := hrr
  refine tb_astore (lv' := [(4, rv (ad 4) o1), (0, .ref (ad 11 0)), (1, .int x1), (2, .int x2), (3, .int x3)]) hx hb dX11_change_8 hl (by decide) rfl (fun ls hl => ?_)
  refine tb_aload hx hb dX11_change_10 (lv_at hl 0 rfl) ?_
  refine tb_ifnull (tgt := 38) hx hb dX11_change_12 (by decide) (fun e0 => ?_) (fun a2 ea2 => ?_)
  · replace h := oc_n e0 h
    subst e0
    refine lv_iconst (v := (-1 : Int32)) hx hb dX11_change_38 (by decide) ?_
    exact tb_iretE h hx hb hr hS hW hlk dX11_change_39
  · replace h := oc_s ea2 h
    subst ea2
    have la2 := ho1 _ rfl
    refine lv_iload_n hx hb dX11_change_15 rfl (lv_at hl 3 rfl) ?_
    refine lv_if_ne (tgt := 26) hx hb dX11_change_16 (by decide) (fun c3 => ?_) (fun c3 => ?_)
    · replace h := sh_f c3 h
      refine lv_iload_n hx hb dX11_change_26 rfl (lv_at hl 3 rfl) ?_
      refine lv_iconst (v := (1 : Int32)) hx hb dX11_change_27 (by decide) ?_
      refine lv_icmp_ne (tgt := 38) hx hb dX11_change_28 (by decide) (fun c4 => ?_) (fun c4 => ?_)
      · replace h := sh_f c4 h
        refine lv_iconst (v := (-1 : Int32)) hx hb dX11_change_38 (by decide) ?_
        exact tb_iretE h hx hb hr hS hW hlk dX11_change_39
      · replace h := sh_t c4 h
        refine lv_iload_n hx hb dX11_change_31 rfl (lv_at hl 4 rfl) ?_
        refine tb_cSZ hZk hx hb hml hown hts hK hZ hW hS [.int x3] (mX11_isSense (l := l) hZk x3 M0 (fX11_isSense x3) rfl) pmX11_isSense tw513 ⟨Nat.le_of_ble_eq_true rfl, Nat.le_of_ble_eq_true rfl⟩ rfl hl.1 (Nat.le_of_ble_eq_true rfl) ⟨Nat.le_refl _, Nat.le_refl _⟩ rfl dX11_change_32 (fun H locs hW hS hzz => ?_)
        refine lv_topi (fun b5 eb5 => ?_)
        replace h := nm_a eb5 h
        have hzb5 : b5 = 0 ∨ b5 = 1 := by rw [eb5]; exact hzz
        refine lv_if_ne (tgt := 40) hx hb dX11_change_35 (by decide) (fun c6 => ?_) (fun c6 => ?_)
        · replace h := sh_f c6 h
          refine lv_iload_n hx hb dX11_change_40 rfl (lv_at hl 3 rfl) ?_
          refine lv_if_ne (tgt := 52) hx hb dX11_change_41 (by decide) (fun c7 => ?_) (fun c7 => ?_)
          · replace h := sh_f c7 h
            refine lv_aload hx hb dX11_change_52 (lv_at hl 0 rfl) ?_
            refine gtX11_195 hx hb hts hown hK hW la2 dX11_change_54 ?_
            refine lv_topi (fun v8 ev8 => ?_)
            replace h := nm_a ev8 h
            refine lv_istore (lv' := [(5, .int v8), (4, .ref (ad 4 a2)), (0, .ref (ad 11 0)), (1, .int x1), (2, .int x2), (3, .int x3)]) hx hb dX11_change_57 hl (by decide) rfl (fun ls hl => ?_)
            refine lv_aload_n hx hb dX11_change_59 rfl (lv_at hl 2 rfl) ?_
            refine gtX11_51 hx hb hts hown hK hW cz11 dX11_change_60 ?_
            refine lv_iload_n hx hb dX11_change_63 rfl (lv_at hl 4 rfl) ?_
            refine lv_iload_n hx hb dX11_change_64 rfl (lv_at hl 3 rfl) ?_
            refine lv_iload hx hb dX11_change_65 (lv_at hl 0 rfl) ?_
            refine lv_iload_n hx hb dX11_change_67 rfl (lv_at hl 5 rfl) ?_
            replace h := bE_a h
            obtain ⟨u9, M10, hcu9, h⟩ := h
            refine tb_cVV hZk hx hb hml hown hts hK hZ hW hS [.int x2, .int x1, .int v8, .int x3] (mX1_make (l := l) hZk x2 x1 v8 x3 M0 u9 M10 hcu9) pmX1_make tw699 (Wd.recv hK hW (t := 1) (by decide) cz1 (C := RX1) (T := TX1) (N := 8) rfl) ⟨Nat.le_of_ble_eq_true rfl, Nat.le_of_ble_eq_true rfl⟩ rfl hl.1 (Nat.le_of_ble_eq_true rfl) ⟨Nat.le_refl _, Nat.le_refl _⟩ rfl dX11_change_68 (fun H locs hW hS => ?_)
            refine lv_iload hx hb dX11_change_71 (lv_at hl 0 rfl) ?_
            exact tb_iretE h hx hb hr hS hW hlk dX11_change_73
          · replace h := sh_t c7 h
            refine lv_aload hx hb dX11_change_44 (lv_at hl 0 rfl) ?_
            refine gtX11_192 hx hb hts hown hK hW la2 dX11_change_46 ?_
            refine lv_goto (tgt := 57) hx hb dX11_change_49 (by decide) ?_
            refine lv_topi (fun v11 ev11 => ?_)
            replace h := nm_a ev11 h
            refine lv_istore (lv' := [(5, .int v11), (4, .ref (ad 4 a2)), (0, .ref (ad 11 0)), (1, .int x1), (2, .int x2), (3, .int x3)]) hx hb dX11_change_57 hl (by decide) rfl (fun ls hl => ?_)
            refine lv_aload_n hx hb dX11_change_59 rfl (lv_at hl 2 rfl) ?_
            refine gtX11_51 hx hb hts hown hK hW cz11 dX11_change_60 ?_
            refine lv_iload_n hx hb dX11_change_63 rfl (lv_at hl 4 rfl) ?_
            refine lv_iload_n hx hb dX11_change_64 rfl (lv_at hl 3 rfl) ?_
            refine lv_iload hx hb dX11_change_65 (lv_at hl 0 rfl) ?_
            refine lv_iload_n hx hb dX11_change_67 rfl (lv_at hl 5 rfl) ?_
            replace h := bE_a h
            obtain ⟨u12, M13, hcu12, h⟩ := h
            refine tb_cVV hZk hx hb hml hown hts hK hZ hW hS [.int x2, .int x1, .int v11, .int x3] (mX1_make (l := l) hZk x2 x1 v11 x3 M0 u12 M13 hcu12) pmX1_make tw699 (Wd.recv hK hW (t := 1) (by decide) cz1 (C := RX1) (T := TX1) (N := 8) rfl) ⟨Nat.le_of_ble_eq_true rfl, Nat.le_of_ble_eq_true rfl⟩ rfl hl.1 (Nat.le_of_ble_eq_true rfl) ⟨Nat.le_refl _, Nat.le_refl _⟩ rfl dX11_change_68 (fun H locs hW hS => ?_)
            refine lv_iload hx hb dX11_change_71 (lv_at hl 0 rfl) ?_
            exact tb_iretE h hx hb hr hS hW hlk dX11_change_73
        · replace h := sh_t c6 h
          refine lv_iconst (v := (-1 : Int32)) hx hb dX11_change_38 (by decide) ?_
          exact tb_iretE h hx hb hr hS hW hlk dX11_change_39
    · replace h := sh_t c3 h
      refine lv_iload_n hx hb dX11_change_19 rfl (lv_at hl 4 rfl) ?_
      refine tb_cSZ hZk hx hb hml hown hts hK hZ hW hS [.int x3] (mX11_isWeight (l := l) hZk x3 M0 (fX11_isWeight x3) rfl) pmX11_isWeight tw516 ⟨Nat.le_of_ble_eq_true rfl, Nat.le_of_ble_eq_true rfl⟩ rfl hl.1 (Nat.le_of_ble_eq_true rfl) ⟨Nat.le_refl _, Nat.le_refl _⟩ rfl dX11_change_20 (fun H locs hW hS hzz => ?_)
      refine lv_topi (fun b14 eb14 => ?_)
      replace h := nm_a eb14 h
      have hzb14 : b14 = 0 ∨ b14 = 1 := by rw [eb14]; exact hzz
      refine lv_if_ne (tgt := 40) hx hb dX11_change_23 (by decide) (fun c15 => ?_) (fun c15 => ?_)
      · replace h := sh_f c15 h
        refine lv_iload_n hx hb dX11_change_40 rfl (lv_at hl 3 rfl) ?_
        refine lv_if_ne (tgt := 52) hx hb dX11_change_41 (by decide) (fun c16 => ?_) (fun c16 => ?_)
        · replace h := sh_f c16 h
          refine lv_aload hx hb dX11_change_52 (lv_at hl 0 rfl) ?_
          refine gtX11_195 hx hb hts hown hK hW la2 dX11_change_54 ?_
          refine lv_topi (fun v17 ev17 => ?_)
          replace h := nm_a ev17 h
          refine lv_istore (lv' := [(5, .int v17), (4, .ref (ad 4 a2)), (0, .ref (ad 11 0)), (1, .int x1), (2, .int x2), (3, .int x3)]) hx hb dX11_change_57 hl (by decide) rfl (fun ls hl => ?_)
          refine lv_aload_n hx hb dX11_change_59 rfl (lv_at hl 2 rfl) ?_
          refine gtX11_51 hx hb hts hown hK hW cz11 dX11_change_60 ?_
          refine lv_iload_n hx hb dX11_change_63 rfl (lv_at hl 4 rfl) ?_
          refine lv_iload_n hx hb dX11_change_64 rfl (lv_at hl 3 rfl) ?_
          refine lv_iload hx hb dX11_change_65 (lv_at hl 0 rfl) ?_
          refine lv_iload_n hx hb dX11_change_67 rfl (lv_at hl 5 rfl) ?_
          replace h := bE_a h
          obtain ⟨u18, M19, hcu18, h⟩ := h
          refine tb_cVV hZk hx hb hml hown hts hK hZ hW hS [.int x2, .int x1, .int v17, .int x3] (mX1_make (l := l) hZk x2 x1 v17 x3 M0 u18 M19 hcu18) pmX1_make tw699 (Wd.recv hK hW (t := 1) (by decide) cz1 (C := RX1) (T := TX1) (N := 8) rfl) ⟨Nat.le_of_ble_eq_true rfl, Nat.le_of_ble_eq_true rfl⟩ rfl hl.1 (Nat.le_of_ble_eq_true rfl) ⟨Nat.le_refl _, Nat.le_refl _⟩ rfl dX11_change_68 (fun H locs hW hS => ?_)
          refine lv_iload hx hb dX11_change_71 (lv_at hl 0 rfl) ?_
          exact tb_iretE h hx hb hr hS hW hlk dX11_change_73
        · replace h := sh_t c16 h
          refine lv_aload hx hb dX11_change_44 (lv_at hl 0 rfl) ?_
          refine gtX11_192 hx hb hts hown hK hW la2 dX11_change_46 ?_
          refine lv_goto (tgt := 57) hx hb dX11_change_49 (by decide) ?_
          refine lv_topi (fun v20 ev20 => ?_)
          replace h := nm_a ev20 h
          refine lv_istore (lv' := [(5, .int v20), (4, .ref (ad 4 a2)), (0, .ref (ad 11 0)), (1, .int x1), (2, .int x2), (3, .int x3)]) hx hb dX11_change_57 hl (by decide) rfl (fun ls hl => ?_)
          refine lv_aload_n hx hb dX11_change_59 rfl (lv_at hl 2 rfl) ?_
          refine gtX11_51 hx hb hts hown hK hW cz11 dX11_change_60 ?_
          refine lv_iload_n hx hb dX11_change_63 rfl (lv_at hl 4 rfl) ?_
          refine lv_iload_n hx hb dX11_change_64 rfl (lv_at hl 3 rfl) ?_
          refine lv_iload hx hb dX11_change_65 (lv_at hl 0 rfl) ?_
          refine lv_iload_n hx hb dX11_change_67 rfl (lv_at hl 5 rfl) ?_
          replace h := bE_a h
          obtain ⟨u21, M22, hcu21, h⟩ := h
          refine tb_cVV hZk hx hb hml hown hts hK hZ hW hS [.int x2, .int x1, .int v20, .int x3] (mX1_make (l := l) hZk x2 x1 v20 x3 M0 u21 M22 hcu21) pmX1_make tw699 (Wd.recv hK hW (t := 1) (by decide) cz1 (C := RX1) (T := TX1) (N := 8) rfl) ⟨Nat.le_of_ble_eq_true rfl, Nat.le_of_ble_eq_true rfl⟩ rfl hl.1 (Nat.le_of_ble_eq_true rfl) ⟨Nat.le_refl _, Nat.le_refl _⟩ rfl dX11_change_68 (fun H locs hW hS => ?_)
          refine lv_iload hx hb dX11_change_71 (lv_at hl 0 rfl) ?_
          exact tb_iretE h hx hb hr hS hW hlk dX11_change_73
      · replace h := sh_t c15 h
        refine lv_iload_n hx hb dX11_change_26 rfl (lv_at hl 3 rfl) ?_
        refine lv_iconst (v := (1 : Int32)) hx hb dX11_change_27 (by decide) ?_
        refine lv_icmp_ne (tgt := 38) hx hb dX11_change_28 (by decide) (fun c23 => ?_) (fun c23 => ?_)
        · replace h := sh_f c23 h
          refine lv_iconst (v := (-1 : Int32)) hx hb dX11_change_38 (by decide) ?_
          exact tb_iretE h hx hb hr hS hW hlk dX11_change_39
        · replace h := sh_t c23 h
          refine lv_iload_n hx hb dX11_change_31 rfl (lv_at hl 4 rfl) ?_
          refine tb_cSZ hZk hx hb hml hown hts hK hZ hW hS [.int x3] (mX11_isSense (l := l) hZk x3 M0 (fX11_isSense x3) rfl) pmX11_isSense tw513 ⟨Nat.le_of_ble_eq_true rfl, Nat.le_of_ble_eq_true rfl⟩ rfl hl.1 (Nat.le_of_ble_eq_true rfl) ⟨Nat.le_refl _, Nat.le_refl _⟩ rfl dX11_change_32 (fun H locs hW hS hzz => ?_)
          refine lv_topi (fun b24 eb24 => ?_)
          replace h := nm_a eb24 h
          have hzb24 : b24 = 0 ∨ b24 = 1 := by rw [eb24]; exact hzz
          refine lv_if_ne (tgt := 40) hx hb dX11_change_35 (by decide) (fun c25 => ?_) (fun c25 => ?_)
          · replace h := sh_f c25 h
            refine lv_iload_n hx hb dX11_change_40 rfl (lv_at hl 3 rfl) ?_
            refine lv_if_ne (tgt := 52) hx hb dX11_change_41 (by decide) (fun c26 => ?_) (fun c26 => ?_)
            · replace h := sh_f c26 h
              refine lv_aload hx hb dX11_change_52 (lv_at hl 0 rfl) ?_
              refine gtX11_195 hx hb hts hown hK hW la2 dX11_change_54 ?_
              refine lv_topi (fun v27 ev27 => ?_)
              replace h := nm_a ev27 h
              refine lv_istore (lv' := [(5, .int v27), (4, .ref (ad 4 a2)), (0, .ref (ad 11 0)), (1, .int x1), (2, .int x2), (3, .int x3)]) hx hb dX11_change_57 hl (by decide) rfl (fun ls hl => ?_)
              refine lv_aload_n hx hb dX11_change_59 rfl (lv_at hl 2 rfl) ?_
              refine gtX11_51 hx hb hts hown hK hW cz11 dX11_change_60 ?_
              refine lv_iload_n hx hb dX11_change_63 rfl (lv_at hl 4 rfl) ?_
              refine lv_iload_n hx hb dX11_change_64 rfl (lv_at hl 3 rfl) ?_
              refine lv_iload hx hb dX11_change_65 (lv_at hl 0 rfl) ?_
              refine lv_iload_n hx hb dX11_change_67 rfl (lv_at hl 5 rfl) ?_
              replace h := bE_a h
              obtain ⟨u28, M29, hcu28, h⟩ := h
              refine tb_cVV hZk hx hb hml hown hts hK hZ hW hS [.int x2, .int x1, .int v27, .int x3] (mX1_make (l := l) hZk x2 x1 v27 x3 M0 u28 M29 hcu28) pmX1_make tw699 (Wd.recv hK hW (t := 1) (by decide) cz1 (C := RX1) (T := TX1) (N := 8) rfl) ⟨Nat.le_of_ble_eq_true rfl, Nat.le_of_ble_eq_true rfl⟩ rfl hl.1 (Nat.le_of_ble_eq_true rfl) ⟨Nat.le_refl _, Nat.le_refl _⟩ rfl dX11_change_68 (fun H locs hW hS => ?_)
              refine lv_iload hx hb dX11_change_71 (lv_at hl 0 rfl) ?_
              exact tb_iretE h hx hb hr hS hW hlk dX11_change_73
            · replace h := sh_t c26 h
              refine lv_aload hx hb dX11_change_44 (lv_at hl 0 rfl) ?_
              refine gtX11_192 hx hb hts hown hK hW la2 dX11_change_46 ?_
              refine lv_goto (tgt := 57) hx hb dX11_change_49 (by decide) ?_
              refine lv_topi (fun v30 ev30 => ?_)
              replace h := nm_a ev30 h
              refine lv_istore (lv' := [(5, .int v30), (4, .ref (ad 4 a2)), (0, .ref (ad 11 0)), (1, .int x1), (2, .int x2), (3, .int x3)]) hx hb dX11_change_57 hl (by decide) rfl (fun ls hl => ?_)
              refine lv_aload_n hx hb dX11_change_59 rfl (lv_at hl 2 rfl) ?_
              refine gtX11_51 hx hb hts hown hK hW cz11 dX11_change_60 ?_
              refine lv_iload_n hx hb dX11_change_63 rfl (lv_at hl 4 rfl) ?_
              refine lv_iload_n hx hb dX11_change_64 rfl (lv_at hl 3 rfl) ?_
              refine lv_iload hx hb dX11_change_65 (lv_at hl 0 rfl) ?_
              refine lv_iload_n hx hb dX11_change_67 rfl (lv_at hl 5 rfl) ?_
              replace h := bE_a h
              obtain ⟨u31, M32, hcu31, h⟩ := h
              refine tb_cVV hZk hx hb hml hown hts hK hZ hW hS [.int x2, .int x1, .int v30, .int x3] (mX1_make (l := l) hZk x2 x1 v30 x3 M0 u31 M32 hcu31) pmX1_make tw699 (Wd.recv hK hW (t := 1) (by decide) cz1 (C := RX1) (T := TX1) (N := 8) rfl) ⟨Nat.le_of_ble_eq_true rfl, Nat.le_of_ble_eq_true rfl⟩ rfl hl.1 (Nat.le_of_ble_eq_true rfl) ⟨Nat.le_refl _, Nat.le_refl _⟩ rfl dX11_change_68 (fun H locs hW hS => ?_)
              refine lv_iload hx hb dX11_change_71 (lv_at hl 0 rfl) ?_
              exact tb_iretE h hx hb hr hS hW hlk dX11_change_73
          · replace h := sh_t c25 h
            refine lv_iconst (v := (-1 : Int32)) hx hb dX11_change_38 (by decide) ?_
            exact tb_iretE h hx hb hr hS hW hlk dX11_change_39
def fX11_take (x1 : Int32) (x2 : Int32) (x3 : Int32) (M0 : Mem) : Option (Int32 × Mem) :=
  bd (fX5_stoneAt x1 M0) fun o1 => oc o1 (some ((-1 : Int32), M0)) fun a2 => if x2 < 0 then (some ((-1 : Int32), M0)) else (if (2 : Int32) < x2 then (some ((-1 : Int32), M0)) else (if x2 = 0 then (if x3 < (1 : Int32) then (some ((-1 : Int32), M0)) else (if x3 ≤ (9 : Int32) then (nm (msI M0 808 a2 0 x2) fun M14 => nm (msI M14 809 a2 0 x3) fun M15 => nm (mgI M15 504 0 0) fun v16 => nm (msI M15 807 a2 0 v16) fun M17 => nm ((mgL M17 505 0 0) ||| (fX11_bit x1)) fun v18 => nm (msL M17 505 0 0 v18) fun M19 => some (mgI M19 504 0 0, M19)) else (some ((-1 : Int32), M0)))) else (nm (msI M0 808 a2 0 x2) fun M6 => nm (msI M6 809 a2 0 x3) fun M7 => nm (mgI M7 504 0 0) fun v8 => nm (msI M7 807 a2 0 v8) fun M9 => nm ((mgL M9 505 0 0) ||| (fX11_bit x1)) fun v10 => nm (msL M9 505 0 0 v10) fun M11 => some (mgI M11 504 0 0, M11))))
set_option maxHeartbeats 4000000 in
set_option maxRecDepth 100000 in
theorem mX11_take {l : Launch} {D : va_G} {cy : Nat → ClassId} {A : Nat → Prop} {K : KC} {nS nL : Nat} {ad : Nat → Nat → Nat} (hZk : ZOK A (ZC A K)) (x1 : Int32) (x2 : Int32) (x3 : Int32) (M0 : Mem) (r : Int32) (M' : Mem) (h : fX11_take x1 x2 x3 M0 = some (r, M')) : Met l yX11_take (wt yX11_take cX11_take 5 (some .int)) (rm 1 21) (CPre D cy A (ZC A K) (cnC nS nL) ad M0 [.ref (ad 11 0), .int x1, .int x2, .int x3]) (QI D cy A (cnC nS nL) ad r M') 0 0 A := by
  refine tb_start [.ref (ad 11 0), .int x1, .int x2, .int x3] [(0, .ref (ad 11 0)), (1, .int x1), (2, .int x2), (3, .int x3)] RX11 rfl (by decide +kernel) (Nat.le_of_ble_eq_true rfl) rfl (fun p e s m args below meth c hx hb hr hml hown hts hlk hW hK hZ ls hl => ?_)
  have hS : va_S A s.heap s.heap [] := va_S.rf
  unfold fX11_take at h
  refine lv_aload_n hx hb dX11_take_0 rfl (lv_at hl 0 rfl) ?_
  refine gtX11_10 hx hb hts hown hK hW cz11 dX11_take_1 ?_
  refine lv_iload_n hx hb dX11_take_4 rfl (lv_at hl 1 rfl) ?_
  replace h := bd_a h
  obtain ⟨o1, hco1, h⟩ := h
  refine tb_cVR hZk hx hb hml hown hts hK hZ hW hS [.int x1] (mX5_stoneAt (l := l) hZk x1 M0 o1 hco1) pmX5_stoneAt tw502 (Wd.recv hK hW (t := 5) (by decide) cz5 (C := RX5) (T := TX5) (N := 7) rfl) ⟨Nat.le_of_ble_eq_true rfl, Nat.le_of_ble_eq_true rfl⟩ rfl hl.1 (Nat.le_of_ble_eq_true rfl) ⟨Nat.le_refl _, Nat.le_refl _⟩ rfl dX11_take_5 (fun H locs hW hS hrr => ?_)
  have ho1 := hrr
  refine tb_astore (lv' := [(4, rv (ad 8) o1), (0, .ref (ad 11 0)), (1, .int x1), (2, .int x2), (3, .int x3)]) hx hb dX11_take_8 hl (by decide) rfl (fun ls hl => ?_)
  refine tb_aload hx hb dX11_take_10 (lv_at hl 0 rfl) ?_
  refine tb_ifnull (tgt := 39) hx hb dX11_take_12 (by decide) (fun e0 => ?_) (fun a2 ea2 => ?_)
  · replace h := oc_n e0 h
    subst e0
    refine lv_iconst (v := (-1 : Int32)) hx hb dX11_take_39 (by decide) ?_
    exact tb_iretE h hx hb hr hS hW hlk dX11_take_40
  · replace h := oc_s ea2 h
    subst ea2
    have la2 := ho1 _ rfl
    refine lv_iload_n hx hb dX11_take_15 rfl (lv_at hl 3 rfl) ?_
    refine lv_if_lt (tgt := 39) hx hb dX11_take_16 (by decide) (fun c3 => ?_) (fun c3 => ?_)
    · replace h := sh_t c3 h
      refine lv_iconst (v := (-1 : Int32)) hx hb dX11_take_39 (by decide) ?_
      exact tb_iretE h hx hb hr hS hW hlk dX11_take_40
    · replace h := sh_f c3 h
      refine lv_iload_n hx hb dX11_take_19 rfl (lv_at hl 3 rfl) ?_
      refine lv_iconst (v := (2 : Int32)) hx hb dX11_take_20 (by decide) ?_
      refine lv_icmp_gt (tgt := 39) hx hb dX11_take_21 (by decide) (fun c4 => ?_) (fun c4 => ?_)
      · replace h := sh_t c4 h
        refine lv_iconst (v := (-1 : Int32)) hx hb dX11_take_39 (by decide) ?_
        exact tb_iretE h hx hb hr hS hW hlk dX11_take_40
      · replace h := sh_f c4 h
        refine lv_iload_n hx hb dX11_take_24 rfl (lv_at hl 3 rfl) ?_
        refine lv_if_ne (tgt := 41) hx hb dX11_take_25 (by decide) (fun c5 => ?_) (fun c5 => ?_)
        · replace h := sh_f c5 h
          refine lv_aload hx hb dX11_take_41 (lv_at hl 0 rfl) ?_
          refine lv_iload_n hx hb dX11_take_43 rfl (lv_at hl 3 rfl) ?_
          refine ptX11_138 hx hb hts hown hK hW hS la2 dX11_take_44 (fun H locs hW hS => ?_)
          obtain ⟨M6, eM6⟩ : ∃ y, y = msI M0 808 a2 0 x2 := ⟨_, rfl⟩
          replace h := nm_a eM6 h
          rw [← eM6] at hW
          refine lv_aload hx hb dX11_take_47 (lv_at hl 0 rfl) ?_
          refine lv_iload_n hx hb dX11_take_49 rfl (lv_at hl 4 rfl) ?_
          refine ptX11_206 hx hb hts hown hK hW hS la2 dX11_take_50 (fun H locs hW hS => ?_)
          obtain ⟨M7, eM7⟩ : ∃ y, y = msI M6 809 a2 0 x3 := ⟨_, rfl⟩
          replace h := nm_a eM7 h
          rw [← eM7] at hW
          refine lv_aload hx hb dX11_take_53 (lv_at hl 0 rfl) ?_
          refine lv_aload_n hx hb dX11_take_55 rfl (lv_at hl 1 rfl) ?_
          refine gtX11_10 hx hb hts hown hK hW cz11 dX11_take_56 ?_
          refine gtX11_209 hx hb hts hown hK hW cz5 dX11_take_59 ?_
          refine lv_topi (fun v8 ev8 => ?_)
          replace h := nm_a ev8 h
          refine ptX11_135 hx hb hts hown hK hW hS la2 dX11_take_62 (fun H locs hW hS => ?_)
          obtain ⟨M9, eM9⟩ : ∃ y, y = msI M7 807 a2 0 v8 := ⟨_, rfl⟩
          replace h := nm_a eM9 h
          rw [← eM9] at hW
          refine lv_aload_n hx hb dX11_take_65 rfl (lv_at hl 1 rfl) ?_
          refine gtX11_10 hx hb hts hown hK hW cz11 dX11_take_66 ?_
          refine lv_dup hx hb dX11_take_69 rfl ?_
          refine gtX11_212 hx hb hts hown hK hW cz5 dX11_take_70 ?_
          refine lv_iload_n hx hb dX11_take_73 rfl (lv_at hl 2 rfl) ?_
          refine tb_cSL hZk hx hb hml hown hts hK hZ hW hS [.int x1] (mX11_bit (l := l) hZk x1 M9 (fX11_bit x1) rfl) pmX11_bit tw624 ⟨Nat.le_of_ble_eq_true rfl, Nat.le_of_ble_eq_true rfl⟩ rfl hl.1 (Nat.le_of_ble_eq_true rfl) ⟨Nat.le_refl _, Nat.le_refl _⟩ rfl dX11_take_74 (fun H locs hW hS => ?_)
          refine lv_lor hx hb dX11_take_77 ?_
          refine lv_topl (fun v10 ev10 => ?_)
          replace h := nm_a ev10 h
          refine ptX11_212 hx hb hts hown hK hW hS cz5 dX11_take_78 (fun H locs hW hS => ?_)
          obtain ⟨M11, eM11⟩ : ∃ y, y = msL M9 505 0 0 v10 := ⟨_, rfl⟩
          replace h := nm_a eM11 h
          rw [← eM11] at hW
          refine lv_aload_n hx hb dX11_take_81 rfl (lv_at hl 1 rfl) ?_
          refine gtX11_10 hx hb hts hown hK hW cz11 dX11_take_82 ?_
          refine gtX11_209 hx hb hts hown hK hW cz5 dX11_take_85 ?_
          exact tb_iretE h hx hb hr hS hW hlk dX11_take_88
        · replace h := sh_t c5 h
          refine lv_iload_n hx hb dX11_take_28 rfl (lv_at hl 4 rfl) ?_
          refine lv_iconst (v := (1 : Int32)) hx hb dX11_take_29 (by decide) ?_
          refine lv_icmp_lt (tgt := 39) hx hb dX11_take_30 (by decide) (fun c12 => ?_) (fun c12 => ?_)
          · replace h := sh_t c12 h
            refine lv_iconst (v := (-1 : Int32)) hx hb dX11_take_39 (by decide) ?_
            exact tb_iretE h hx hb hr hS hW hlk dX11_take_40
          · replace h := sh_f c12 h
            refine lv_iload_n hx hb dX11_take_33 rfl (lv_at hl 4 rfl) ?_
            refine lv_bipush (v := (9 : Int32)) hx hb dX11_take_34 (by decide) ?_
            refine lv_icmp_le (tgt := 41) hx hb dX11_take_36 (by decide) (fun c13 => ?_) (fun c13 => ?_)
            · replace h := sh_t c13 h
              refine lv_aload hx hb dX11_take_41 (lv_at hl 0 rfl) ?_
              refine lv_iload_n hx hb dX11_take_43 rfl (lv_at hl 3 rfl) ?_
              refine ptX11_138 hx hb hts hown hK hW hS la2 dX11_take_44 (fun H locs hW hS => ?_)
              obtain ⟨M14, eM14⟩ : ∃ y, y = msI M0 808 a2 0 x2 := ⟨_, rfl⟩
              replace h := nm_a eM14 h
              rw [← eM14] at hW
              refine lv_aload hx hb dX11_take_47 (lv_at hl 0 rfl) ?_
              refine lv_iload_n hx hb dX11_take_49 rfl (lv_at hl 4 rfl) ?_
              refine ptX11_206 hx hb hts hown hK hW hS la2 dX11_take_50 (fun H locs hW hS => ?_)
              obtain ⟨M15, eM15⟩ : ∃ y, y = msI M14 809 a2 0 x3 := ⟨_, rfl⟩
              replace h := nm_a eM15 h
              rw [← eM15] at hW
              refine lv_aload hx hb dX11_take_53 (lv_at hl 0 rfl) ?_
              refine lv_aload_n hx hb dX11_take_55 rfl (lv_at hl 1 rfl) ?_
              refine gtX11_10 hx hb hts hown hK hW cz11 dX11_take_56 ?_
              refine gtX11_209 hx hb hts hown hK hW cz5 dX11_take_59 ?_
              refine lv_topi (fun v16 ev16 => ?_)
              replace h := nm_a ev16 h
              refine ptX11_135 hx hb hts hown hK hW hS la2 dX11_take_62 (fun H locs hW hS => ?_)
              obtain ⟨M17, eM17⟩ : ∃ y, y = msI M15 807 a2 0 v16 := ⟨_, rfl⟩
              replace h := nm_a eM17 h
              rw [← eM17] at hW
              refine lv_aload_n hx hb dX11_take_65 rfl (lv_at hl 1 rfl) ?_
              refine gtX11_10 hx hb hts hown hK hW cz11 dX11_take_66 ?_
              refine lv_dup hx hb dX11_take_69 rfl ?_
              refine gtX11_212 hx hb hts hown hK hW cz5 dX11_take_70 ?_
              refine lv_iload_n hx hb dX11_take_73 rfl (lv_at hl 2 rfl) ?_
              refine tb_cSL hZk hx hb hml hown hts hK hZ hW hS [.int x1] (mX11_bit (l := l) hZk x1 M17 (fX11_bit x1) rfl) pmX11_bit tw624 ⟨Nat.le_of_ble_eq_true rfl, Nat.le_of_ble_eq_true rfl⟩ rfl hl.1 (Nat.le_of_ble_eq_true rfl) ⟨Nat.le_refl _, Nat.le_refl _⟩ rfl dX11_take_74 (fun H locs hW hS => ?_)
              refine lv_lor hx hb dX11_take_77 ?_
              refine lv_topl (fun v18 ev18 => ?_)
              replace h := nm_a ev18 h
              refine ptX11_212 hx hb hts hown hK hW hS cz5 dX11_take_78 (fun H locs hW hS => ?_)
              obtain ⟨M19, eM19⟩ : ∃ y, y = msL M17 505 0 0 v18 := ⟨_, rfl⟩
              replace h := nm_a eM19 h
              rw [← eM19] at hW
              refine lv_aload_n hx hb dX11_take_81 rfl (lv_at hl 1 rfl) ?_
              refine gtX11_10 hx hb hts hown hK hW cz11 dX11_take_82 ?_
              refine gtX11_209 hx hb hts hown hK hW cz5 dX11_take_85 ?_
              exact tb_iretE h hx hb hr hS hW hlk dX11_take_88
            · replace h := sh_f c13 h
              refine lv_iconst (v := (-1 : Int32)) hx hb dX11_take_39 (by decide) ?_
              exact tb_iretE h hx hb hr hS hW hlk dX11_take_40
def fX11_restore (x1 : Int32) (M0 : Mem) : Option (Int32 × Mem) :=
  bd (fX5_stoneAt x1 M0) fun o1 => oc o1 (some ((-1 : Int32), M0)) fun a2 => if 0 ≤ (mgI M0 807 a2 0) then (nm (mgI M0 807 a2 0) fun v4 => nm (msI M0 808 a2 0 (-1 : Int32)) fun M5 => nm (msI M5 807 a2 0 (-1 : Int32)) fun M6 => nm ((mgL M6 505 0 0) &&& ((fX11_bit x1) ^^^ (-1 : Int64))) fun v7 => nm (msL M6 505 0 0 v7) fun M8 => some (v4, M8)) else (some ((-2 : Int32), M0))
set_option maxHeartbeats 4000000 in
set_option maxRecDepth 100000 in
theorem mX11_restore {l : Launch} {D : va_G} {cy : Nat → ClassId} {A : Nat → Prop} {K : KC} {nS nL : Nat} {ad : Nat → Nat → Nat} (hZk : ZOK A (ZC A K)) (x1 : Int32) (M0 : Mem) (r : Int32) (M' : Mem) (h : fX11_restore x1 M0 = some (r, M')) : Met l yX11_restore (wt yX11_restore cX11_restore 4 (some .int)) (rm 1 21) (CPre D cy A (ZC A K) (cnC nS nL) ad M0 [.ref (ad 11 0), .int x1]) (QI D cy A (cnC nS nL) ad r M') 0 0 A := by
  refine tb_start [.ref (ad 11 0), .int x1] [(0, .ref (ad 11 0)), (1, .int x1)] RX11 rfl (by decide +kernel) (Nat.le_of_ble_eq_true rfl) rfl (fun p e s m args below meth c hx hb hr hml hown hts hlk hW hK hZ ls hl => ?_)
  have hS : va_S A s.heap s.heap [] := va_S.rf
  unfold fX11_restore at h
  refine lv_aload_n hx hb dX11_restore_0 rfl (lv_at hl 0 rfl) ?_
  refine gtX11_10 hx hb hts hown hK hW cz11 dX11_restore_1 ?_
  refine lv_iload_n hx hb dX11_restore_4 rfl (lv_at hl 1 rfl) ?_
  replace h := bd_a h
  obtain ⟨o1, hco1, h⟩ := h
  refine tb_cVR hZk hx hb hml hown hts hK hZ hW hS [.int x1] (mX5_stoneAt (l := l) hZk x1 M0 o1 hco1) pmX5_stoneAt tw502 (Wd.recv hK hW (t := 5) (by decide) cz5 (C := RX5) (T := TX5) (N := 7) rfl) ⟨Nat.le_of_ble_eq_true rfl, Nat.le_of_ble_eq_true rfl⟩ rfl hl.1 (Nat.le_of_ble_eq_true rfl) ⟨Nat.le_refl _, Nat.le_refl _⟩ rfl dX11_restore_5 (fun H locs hW hS hrr => ?_)
  have ho1 := hrr
  refine tb_astore_n (lv' := [(2, rv (ad 8) o1), (0, .ref (ad 11 0)), (1, .int x1)]) hx hb dX11_restore_8 rfl hl (by decide) rfl (fun ls hl => ?_)
  refine tb_aload_n hx hb dX11_restore_9 rfl (lv_at hl 0 rfl) ?_
  refine tb_ifnonnull (tgt := 15) hx hb dX11_restore_10 (by decide) (fun a2 ea2 => ?_) (fun e0 => ?_)
  · replace h := oc_s ea2 h
    subst ea2
    have la2 := ho1 _ rfl
    refine lv_aload_n hx hb dX11_restore_15 rfl (lv_at hl 0 rfl) ?_
    refine gtX11_135 hx hb hts hown hK hW la2 dX11_restore_16 ?_
    refine lv_if_ge (tgt := 25) hx hb dX11_restore_19 (by decide) (fun c3 => ?_) (fun c3 => ?_)
    · replace h := sh_t c3 h
      refine lv_aload_n hx hb dX11_restore_25 rfl (lv_at hl 0 rfl) ?_
      refine gtX11_135 hx hb hts hown hK hW la2 dX11_restore_26 ?_
      refine lv_topi (fun v4 ev4 => ?_)
      replace h := nm_a ev4 h
      refine lv_istore_n (lv' := [(3, .int v4), (2, .ref (ad 8 a2)), (0, .ref (ad 11 0)), (1, .int x1)]) hx hb dX11_restore_29 rfl hl (by decide) rfl (fun ls hl => ?_)
      refine lv_aload_n hx hb dX11_restore_30 rfl (lv_at hl 1 rfl) ?_
      refine lv_iconst (v := (-1 : Int32)) hx hb dX11_restore_31 (by decide) ?_
      refine ptX11_138 hx hb hts hown hK hW hS la2 dX11_restore_32 (fun H locs hW hS => ?_)
      obtain ⟨M5, eM5⟩ : ∃ y, y = msI M0 808 a2 0 (-1 : Int32) := ⟨_, rfl⟩
      replace h := nm_a eM5 h
      rw [← eM5] at hW
      refine lv_aload_n hx hb dX11_restore_35 rfl (lv_at hl 1 rfl) ?_
      refine lv_iconst (v := (-1 : Int32)) hx hb dX11_restore_36 (by decide) ?_
      refine ptX11_135 hx hb hts hown hK hW hS la2 dX11_restore_37 (fun H locs hW hS => ?_)
      obtain ⟨M6, eM6⟩ : ∃ y, y = msI M5 807 a2 0 (-1 : Int32) := ⟨_, rfl⟩
      replace h := nm_a eM6 h
      rw [← eM6] at hW
      refine lv_aload_n hx hb dX11_restore_40 rfl (lv_at hl 2 rfl) ?_
      refine gtX11_10 hx hb hts hown hK hW cz11 dX11_restore_41 ?_
      refine lv_dup hx hb dX11_restore_44 rfl ?_
      refine gtX11_212 hx hb hts hown hK hW cz5 dX11_restore_45 ?_
      refine lv_iload_n hx hb dX11_restore_48 rfl (lv_at hl 3 rfl) ?_
      refine tb_cSL hZk hx hb hml hown hts hK hZ hW hS [.int x1] (mX11_bit (l := l) hZk x1 M6 (fX11_bit x1) rfl) pmX11_bit tw624 ⟨Nat.le_of_ble_eq_true rfl, Nat.le_of_ble_eq_true rfl⟩ rfl hl.1 (Nat.le_of_ble_eq_true rfl) ⟨Nat.le_refl _, Nat.le_refl _⟩ rfl dX11_restore_49 (fun H locs hW hS => ?_)
      refine lv_ldc2 hx hb hown (hts _ tw724) dX11_restore_52 ?_
      refine lv_lxor hx hb dX11_restore_55 ?_
      refine lv_land hx hb dX11_restore_56 ?_
      refine lv_topl (fun v7 ev7 => ?_)
      replace h := nm_a ev7 h
      refine ptX11_212 hx hb hts hown hK hW hS cz5 dX11_restore_57 (fun H locs hW hS => ?_)
      obtain ⟨M8, eM8⟩ : ∃ y, y = msL M6 505 0 0 v7 := ⟨_, rfl⟩
      replace h := nm_a eM8 h
      rw [← eM8] at hW
      refine lv_iload_n hx hb dX11_restore_60 rfl (lv_at hl 0 rfl) ?_
      exact tb_iretE h hx hb hr hS hW hlk dX11_restore_61
    · replace h := sh_f c3 h
      refine lv_bipush (v := (-2 : Int32)) hx hb dX11_restore_22 (by decide) ?_
      exact tb_iretE h hx hb hr hS hW hlk dX11_restore_24
  · replace h := oc_n e0 h
    subst e0
    refine lv_iconst (v := (-1 : Int32)) hx hb dX11_restore_13 (by decide) ?_
    exact tb_iretE h hx hb hr hS hW hlk dX11_restore_14
def fX11_with (x1 : Int32) (x2 : Int32) (x3 : Int32) (M0 : Mem) : Option (Int32 × Mem) :=
  bd (fX5_stoneAt x1 M0) fun o1 => bd (fX5_stoneAt x2 M0) fun o2 => oc o1 (some ((-2000000000 : Int32), M0)) fun a3 => oc o2 (some ((-2000000000 : Int32), M0)) fun a4 => if x3 < 0 then (some ((-2000000000 : Int32), M0)) else (if x3 ≤ (3 : Int32) then (nm (fX11_bit x1) fun v7 => nm ((mgL M0 815 a4 0) ||| (fX11_bit x2)) fun v8 => if (2 : Int32) ≤ x3 then (bE (fX9_work (0 : Int64) v7 v8 M0) fun u10 M11 => if (x3 - x3 / (2 : Int32) * (2 : Int32)) = 0 then (ix (mgI M11 800 a4 0) 64 <| some (mgI M11 4100 0 (mgI M11 800 a4 0).toNatClampNeg, M11)) else (ix (mgI M11 800 a4 0) 64 <| some (mgI M11 4200 0 (mgI M11 800 a4 0).toNatClampNeg, M11))) else (bE (fX9_work v7 (0 : Int64) v8 M0) fun u13 M14 => if (x3 - x3 / (2 : Int32) * (2 : Int32)) = 0 then (ix (mgI M14 800 a4 0) 64 <| some (mgI M14 4100 0 (mgI M14 800 a4 0).toNatClampNeg, M14)) else (ix (mgI M14 800 a4 0) 64 <| some (mgI M14 4200 0 (mgI M14 800 a4 0).toNatClampNeg, M14)))) else (some ((-2000000000 : Int32), M0)))
set_option maxHeartbeats 4000000 in
set_option maxRecDepth 100000 in
theorem mX11_with {l : Launch} {D : va_G} {cy : Nat → ClassId} {A : Nat → Prop} {K : KC} {nS nL : Nat} {ad : Nat → Nat → Nat} (hZk : ZOK A (ZC A K)) (x1 : Int32) (x2 : Int32) (x3 : Int32) (M0 : Mem) (r : Int32) (M' : Mem) (h : fX11_with x1 x2 x3 M0 = some (r, M')) : Met l yX11_with (wt yX11_with cX11_with 10 (some .int)) (rm 3 97) (CPre D cy A (ZC A K) (cnC nS nL) ad M0 [.ref (ad 11 0), .int x1, .int x2, .int x3]) (QI D cy A (cnC nS nL) ad r M') 0 0 A := by
  refine tb_start [.ref (ad 11 0), .int x1, .int x2, .int x3] [(0, .ref (ad 11 0)), (1, .int x1), (2, .int x2), (3, .int x3)] RX11 rfl (by decide +kernel) (Nat.le_of_ble_eq_true rfl) rfl (fun p e s m args below meth c hx hb hr hml hown hts hlk hW hK hZ ls hl => ?_)
  have hS : va_S A s.heap s.heap [] := va_S.rf
  unfold fX11_with at h
  refine lv_aload_n hx hb dX11_with_0 rfl (lv_at hl 0 rfl) ?_
  refine gtX11_10 hx hb hts hown hK hW cz11 dX11_with_1 ?_
  refine lv_iload_n hx hb dX11_with_4 rfl (lv_at hl 1 rfl) ?_
  replace h := bd_a h
  obtain ⟨o1, hco1, h⟩ := h
  refine tb_cVR hZk hx hb hml hown hts hK hZ hW hS [.int x1] (mX5_stoneAt (l := l) hZk x1 M0 o1 hco1) pmX5_stoneAt tw502 (Wd.recv hK hW (t := 5) (by decide) cz5 (C := RX5) (T := TX5) (N := 7) rfl) ⟨Nat.le_of_ble_eq_true rfl, Nat.le_of_ble_eq_true rfl⟩ rfl hl.1 (Nat.le_of_ble_eq_true rfl) ⟨Nat.le_refl _, Nat.le_refl _⟩ rfl dX11_with_5 (fun H locs hW hS hrr => ?_)
  have ho1 := hrr
  refine tb_astore (lv' := [(4, rv (ad 8) o1), (0, .ref (ad 11 0)), (1, .int x1), (2, .int x2), (3, .int x3)]) hx hb dX11_with_8 hl (by decide) rfl (fun ls hl => ?_)
  refine lv_aload_n hx hb dX11_with_10 rfl (lv_at hl 1 rfl) ?_
  refine gtX11_10 hx hb hts hown hK hW cz11 dX11_with_11 ?_
  refine lv_iload_n hx hb dX11_with_14 rfl (lv_at hl 3 rfl) ?_
  replace h := bd_a h
  obtain ⟨o2, hco2, h⟩ := h
  refine tb_cVR hZk hx hb hml hown hts hK hZ hW hS [.int x2] (mX5_stoneAt (l := l) hZk x2 M0 o2 hco2) pmX5_stoneAt tw502 (Wd.recv hK hW (t := 5) (by decide) cz5 (C := RX5) (T := TX5) (N := 7) rfl) ⟨Nat.le_of_ble_eq_true rfl, Nat.le_of_ble_eq_true rfl⟩ rfl hl.1 (Nat.le_of_ble_eq_true rfl) ⟨Nat.le_refl _, Nat.le_refl _⟩ rfl dX11_with_15 (fun H locs hW hS hrr => ?_)
  have ho2 := hrr
  refine tb_astore (lv' := [(5, rv (ad 8) o2), (4, rv (ad 8) o1), (0, .ref (ad 11 0)), (1, .int x1), (2, .int x2), (3, .int x3)]) hx hb dX11_with_18 hl (by decide) (by simp [List.filter, rv_cat]) (fun ls hl => ?_)
  refine tb_aload hx hb dX11_with_20 (lv_at hl 1 rfl) ?_
  refine tb_ifnull (tgt := 39) hx hb dX11_with_22 (by decide) (fun e0 => ?_) (fun a3 ea3 => ?_)
  · replace h := oc_n e0 h
    subst e0
    refine lv_ldc hx hb hown (hts _ tw672) dX11_with_39 ?_
    exact tb_iretE h hx hb hr hS hW hlk dX11_with_41
  · replace h := oc_s ea3 h
    subst ea3
    have la3 := ho1 _ rfl
    refine tb_aload hx hb dX11_with_25 (lv_at hl 0 rfl) ?_
    refine tb_ifnull (tgt := 39) hx hb dX11_with_27 (by decide) (fun e0 => ?_) (fun a4 ea4 => ?_)
    · replace h := oc_n e0 h
      subst e0
      refine lv_ldc hx hb hown (hts _ tw672) dX11_with_39 ?_
      exact tb_iretE h hx hb hr hS hW hlk dX11_with_41
    · replace h := oc_s ea4 h
      subst ea4
      have la4 := ho2 _ rfl
      refine lv_iload_n hx hb dX11_with_30 rfl (lv_at hl 5 rfl) ?_
      refine lv_if_lt (tgt := 39) hx hb dX11_with_31 (by decide) (fun c5 => ?_) (fun c5 => ?_)
      · replace h := sh_t c5 h
        refine lv_ldc hx hb hown (hts _ tw672) dX11_with_39 ?_
        exact tb_iretE h hx hb hr hS hW hlk dX11_with_41
      · replace h := sh_f c5 h
        refine lv_iload_n hx hb dX11_with_34 rfl (lv_at hl 5 rfl) ?_
        refine lv_iconst (v := (3 : Int32)) hx hb dX11_with_35 (by decide) ?_
        refine lv_icmp_le (tgt := 42) hx hb dX11_with_36 (by decide) (fun c6 => ?_) (fun c6 => ?_)
        · replace h := sh_t c6 h
          refine lv_iload_n hx hb dX11_with_42 rfl (lv_at hl 3 rfl) ?_
          refine tb_cSL hZk hx hb hml hown hts hK hZ hW hS [.int x1] (mX11_bit (l := l) hZk x1 M0 (fX11_bit x1) rfl) pmX11_bit tw624 ⟨Nat.le_of_ble_eq_true rfl, Nat.le_of_ble_eq_true rfl⟩ rfl hl.1 (Nat.le_of_ble_eq_true rfl) ⟨Nat.le_refl _, Nat.le_refl _⟩ rfl dX11_with_43 (fun H locs hW hS => ?_)
          refine lv_topl (fun v7 ev7 => ?_)
          replace h := nm_a ev7 h
          refine lv_lstore (lv' := [(6, .long v7), (5, .ref (ad 8 a4)), (4, .ref (ad 8 a3)), (0, .ref (ad 11 0)), (1, .int x1), (2, .int x2), (3, .int x3)]) hx hb dX11_with_46 hl (by decide) rfl (fun ls hl => ?_)
          refine lv_aload hx hb dX11_with_48 (lv_at hl 1 rfl) ?_
          refine gtX11_161 hx hb hts hown hK hW la4 dX11_with_50 ?_
          refine lv_iload_n hx hb dX11_with_53 rfl (lv_at hl 5 rfl) ?_
          refine tb_cSL hZk hx hb hml hown hts hK hZ hW hS [.int x2] (mX11_bit (l := l) hZk x2 M0 (fX11_bit x2) rfl) pmX11_bit tw624 ⟨Nat.le_of_ble_eq_true rfl, Nat.le_of_ble_eq_true rfl⟩ rfl hl.1 (Nat.le_of_ble_eq_true rfl) ⟨Nat.le_refl _, Nat.le_refl _⟩ rfl dX11_with_54 (fun H locs hW hS => ?_)
          refine lv_lor hx hb dX11_with_57 ?_
          refine lv_topl (fun v8 ev8 => ?_)
          replace h := nm_a ev8 h
          refine lv_lstore (lv' := [(8, .long v8), (6, .long v7), (5, .ref (ad 8 a4)), (4, .ref (ad 8 a3)), (0, .ref (ad 11 0)), (1, .int x1), (2, .int x2), (3, .int x3)]) hx hb dX11_with_58 hl (by decide) rfl (fun ls hl => ?_)
          refine lv_iload_n hx hb dX11_with_60 rfl (lv_at hl 7 rfl) ?_
          refine lv_iconst (v := (2 : Int32)) hx hb dX11_with_61 (by decide) ?_
          refine lv_icmp_ge (tgt := 80) hx hb dX11_with_62 (by decide) (fun c9 => ?_) (fun c9 => ?_)
          · replace h := sh_t c9 h
            refine lv_aload_n hx hb dX11_with_80 rfl (lv_at hl 4 rfl) ?_
            refine gtX11_28 hx hb hts hown hK hW cz11 dX11_with_81 ?_
            refine lv_lconst (v := (0 : Int64)) hx hb dX11_with_84 (by decide) ?_
            refine lv_lload hx hb dX11_with_85 (lv_at hl 1 rfl) ?_
            refine lv_lload hx hb dX11_with_87 (lv_at hl 0 rfl) ?_
            replace h := bE_a h
            obtain ⟨u10, M11, hcu10, h⟩ := h
            refine tb_cVV hZk hx hb hml hown hts hK hZ hW hS [.long (0 : Int64), .long v7, .long v8] (mX9_work (l := l) hZk (0 : Int64) v7 v8 M0 u10 M11 hcu10) pmX9_work tw625 (Wd.recv hK hW (t := 9) (by decide) cz9 (C := RX9) (T := TX9) (N := 4) rfl) ⟨Nat.le_of_ble_eq_true rfl, Nat.le_of_ble_eq_true rfl⟩ rfl hl.1 (Nat.le_of_ble_eq_true rfl) ⟨Nat.le_refl _, Nat.le_refl _⟩ rfl dX11_with_89 (fun H locs hW hS => ?_)
            refine lv_iload_n hx hb dX11_with_92 rfl (lv_at hl 7 rfl) ?_
            refine lv_iconst (v := (2 : Int32)) hx hb dX11_with_93 (by decide) ?_
            refine lv_irem hx hb dX11_with_94 (by decide) ?_
            refine lv_if_ne (tgt := 114) hx hb dX11_with_95 (by decide) (fun c12 => ?_) (fun c12 => ?_)
            · replace h := sh_f c12 h
              refine lv_aload_n hx hb dX11_with_114 rfl (lv_at hl 4 rfl) ?_
              refine gtX11_28 hx hb hts hown hK hW cz11 dX11_with_115 ?_
              refine gtX11_172 hx hb hts hown hK hW cz9 dX11_with_118 ?_
              refine lv_aload hx hb dX11_with_121 (lv_at hl 2 rfl) ?_
              refine gtX11_147 hx hb hts hown hK hW la4 dX11_with_123 ?_
              replace h := ix_a h
              obtain ⟨hj, h⟩ := h
              refine al42 hx hb hK hW cz42 hj dX11_with_126 ?_
              exact tb_iretE h hx hb hr hS hW hlk dX11_with_127
            · replace h := sh_t c12 h
              refine lv_aload_n hx hb dX11_with_98 rfl (lv_at hl 4 rfl) ?_
              refine gtX11_28 hx hb hts hown hK hW cz11 dX11_with_99 ?_
              refine gtX11_217 hx hb hts hown hK hW cz9 dX11_with_102 ?_
              refine lv_aload hx hb dX11_with_105 (lv_at hl 2 rfl) ?_
              refine gtX11_147 hx hb hts hown hK hW la4 dX11_with_107 ?_
              replace h := ix_a h
              obtain ⟨hj, h⟩ := h
              refine al41 hx hb hK hW cz41 hj dX11_with_110 ?_
              refine lv_goto (tgt := 127) hx hb dX11_with_111 (by decide) ?_
              exact tb_iretE h hx hb hr hS hW hlk dX11_with_127
          · replace h := sh_f c9 h
            refine lv_aload_n hx hb dX11_with_65 rfl (lv_at hl 4 rfl) ?_
            refine gtX11_28 hx hb hts hown hK hW cz11 dX11_with_66 ?_
            refine lv_lload hx hb dX11_with_69 (lv_at hl 1 rfl) ?_
            refine lv_lconst (v := (0 : Int64)) hx hb dX11_with_71 (by decide) ?_
            refine lv_lload hx hb dX11_with_72 (lv_at hl 0 rfl) ?_
            replace h := bE_a h
            obtain ⟨u13, M14, hcu13, h⟩ := h
            refine tb_cVV hZk hx hb hml hown hts hK hZ hW hS [.long v7, .long (0 : Int64), .long v8] (mX9_work (l := l) hZk v7 (0 : Int64) v8 M0 u13 M14 hcu13) pmX9_work tw625 (Wd.recv hK hW (t := 9) (by decide) cz9 (C := RX9) (T := TX9) (N := 4) rfl) ⟨Nat.le_of_ble_eq_true rfl, Nat.le_of_ble_eq_true rfl⟩ rfl hl.1 (Nat.le_of_ble_eq_true rfl) ⟨Nat.le_refl _, Nat.le_refl _⟩ rfl dX11_with_74 (fun H locs hW hS => ?_)
            refine lv_goto (tgt := 92) hx hb dX11_with_77 (by decide) ?_
            refine lv_iload_n hx hb dX11_with_92 rfl (lv_at hl 7 rfl) ?_
            refine lv_iconst (v := (2 : Int32)) hx hb dX11_with_93 (by decide) ?_
            refine lv_irem hx hb dX11_with_94 (by decide) ?_
            refine lv_if_ne (tgt := 114) hx hb dX11_with_95 (by decide) (fun c15 => ?_) (fun c15 => ?_)
            · replace h := sh_f c15 h
              refine lv_aload_n hx hb dX11_with_114 rfl (lv_at hl 4 rfl) ?_
              refine gtX11_28 hx hb hts hown hK hW cz11 dX11_with_115 ?_
              refine gtX11_172 hx hb hts hown hK hW cz9 dX11_with_118 ?_
              refine lv_aload hx hb dX11_with_121 (lv_at hl 2 rfl) ?_
              refine gtX11_147 hx hb hts hown hK hW la4 dX11_with_123 ?_
              replace h := ix_a h
              obtain ⟨hj, h⟩ := h
              refine al42 hx hb hK hW cz42 hj dX11_with_126 ?_
              exact tb_iretE h hx hb hr hS hW hlk dX11_with_127
            · replace h := sh_t c15 h
              refine lv_aload_n hx hb dX11_with_98 rfl (lv_at hl 4 rfl) ?_
              refine gtX11_28 hx hb hts hown hK hW cz11 dX11_with_99 ?_
              refine gtX11_217 hx hb hts hown hK hW cz9 dX11_with_102 ?_
              refine lv_aload hx hb dX11_with_105 (lv_at hl 2 rfl) ?_
              refine gtX11_147 hx hb hts hown hK hW la4 dX11_with_107 ?_
              replace h := ix_a h
              obtain ⟨hj, h⟩ := h
              refine al41 hx hb hK hW cz41 hj dX11_with_110 ?_
              refine lv_goto (tgt := 127) hx hb dX11_with_111 (by decide) ?_
              exact tb_iretE h hx hb hr hS hW hlk dX11_with_127
        · replace h := sh_f c6 h
          refine lv_ldc hx hb hown (hts _ tw672) dX11_with_39 ?_
          exact tb_iretE h hx hb hr hS hW hlk dX11_with_41
def fX11_nth_b15 (x0 : Int64) (x2 : Int32) (k2 : Int32 → Int32 → Option Int32) (i3 : Int32) (i4 : Int32) : Option Int32 :=
  if (64 : Int32) ≤ i4 then (some (-1 : Int32)) else (nm (fX11_isIn x0 i4) fun b6 => if b6 = 0 then (nm (i4 + (1 : Int32)) fun v8 => k2 i3 v8) else (if i3 = x2 then (some i4) else (nm (i3 + (1 : Int32)) fun v10 => nm (i4 + (1 : Int32)) fun v11 => k2 v10 v11)))
def fX11_nth_l15 (x0 : Int64) (x2 : Int32) : Nat → Int32 → Int32 → Option Int32
  | 0, _, _ => none
  | n + 1, i3, i4 => fX11_nth_b15 x0 x2 (fX11_nth_l15 x0 x2 n) i3 i4
def fX11_nth (x0 : Int64) (x2 : Int32) : Option Int32 :=
  if x2 = (-1 : Int32) then (some (fJ13_bitCount_95d88 x0)) else (fX11_nth_l15 x0 x2 FU (0 : Int32) (0 : Int32))
set_option maxHeartbeats 4000000 in
set_option maxRecDepth 100000 in
theorem mX11_nth {l : Launch} {D : va_G} {cy : Nat → ClassId} {A : Nat → Prop} {K : KC} {nS nL : Nat} {ad : Nat → Nat → Nat} (hZk : ZOK A (ZC A K)) (x0 : Int64) (x2 : Int32) (M0 : Mem) (r : Int32) (h : fX11_nth x0 x2 = some r) : Met l yX11_nth (wt yX11_nth cX11_nth 5 (some .int)) (rm 1 22) (CPre D cy A (ZC A K) (cnC nS nL) ad M0 [.long x0, .int x2]) (QI D cy A (cnC nS nL) ad r M0) 0 0 A := by
  refine tb_start [.long x0, .int x2] [(0, .long x0), (2, .int x2)] RX11 rfl (by decide +kernel) (Nat.le_of_ble_eq_true rfl) rfl (fun p e s m args below meth c hx hb hr hml hown hts hlk hW hK hZ ls hl => ?_)
  have hS : va_S A s.heap s.heap [] := va_S.rf
  unfold fX11_nth at h
  refine lv_iload_n hx hb dX11_nth_0 rfl (lv_at hl 1 rfl) ?_
  refine lv_iconst (v := (-1 : Int32)) hx hb dX11_nth_1 (by decide) ?_
  refine lv_icmp_ne (tgt := 10) hx hb dX11_nth_2 (by decide) (fun c1 => ?_) (fun c1 => ?_)
  · replace h := sh_f c1 h
    refine lv_iconst (v := (0 : Int32)) hx hb dX11_nth_10 (by decide) ?_
    refine lv_istore_n (lv' := [(3, .int (0 : Int32)), (0, .long x0), (2, .int x2)]) hx hb dX11_nth_11 rfl hl (by decide) rfl (fun ls hl => ?_)
    refine lv_iconst (v := (0 : Int32)) hx hb dX11_nth_12 (by decide) ?_
    refine lv_istore (lv' := [(4, .int (0 : Int32)), (3, .int (0 : Int32)), (0, .long x0), (2, .int x2)]) hx hb dX11_nth_13 hl (by decide) rfl (fun ls hl => ?_)
    have L2 : ∀ (n2 : Nat) (i3 : Int32) (i4 : Int32) (H : Heap) (locs : List Loc) (ls : Array Slot), Wd D cy A (cnC nS nL) ad M0 H → va_S A s.heap H locs → lv_has ls 5 [(0, .long x0), (2, .int x2), (3, .int i3), (4, .int i4)] → fX11_nth_l15 x0 x2 n2 i3 i4 = some r → W p l e (rm 1 22) s m args below meth c H locs 0 0 (MQ below (QI D cy A (cnC nS nL) ad r M0) args s 0 0 A) (F0 m 15 ls []) := by
      intro n2
      induction n2 with
      | zero => intro i3 i4 H locs ls hW hS hl h; cases h
      | succ n2 ih2 =>
        intro i3 i4 H locs ls hW hS hl h
        unfold fX11_nth_l15 fX11_nth_b15 at h
        refine lv_iload hx hb dX11_nth_15 (lv_at hl 3 rfl) ?_
        refine lv_bipush (v := (64 : Int32)) hx hb dX11_nth_17 (by decide) ?_
        refine lv_icmp_ge (tgt := 48) hx hb dX11_nth_19 (by decide) (fun c5 => ?_) (fun c5 => ?_)
        · replace h := sh_t c5 h
          refine lv_iconst (v := (-1 : Int32)) hx hb dX11_nth_48 (by decide) ?_
          exact tb_iretO h hx hb hr hS hW hlk dX11_nth_49
        · replace h := sh_f c5 h
          refine lv_lload_n hx hb dX11_nth_22 rfl (lv_at hl 0 rfl) ?_
          refine lv_iload hx hb dX11_nth_23 (lv_at hl 3 rfl) ?_
          refine tb_cSZ hZk hx hb hml hown hts hK hZ hW hS [.long x0, .int i4] (mX11_isIn (l := l) hZk x0 i4 M0 (fX11_isIn x0 i4) rfl) pmX11_isIn tw740 ⟨Nat.le_of_ble_eq_true rfl, Nat.le_of_ble_eq_true rfl⟩ rfl hl.1 (Nat.le_of_ble_eq_true rfl) ⟨Nat.le_refl _, Nat.le_refl _⟩ rfl dX11_nth_25 (fun H locs hW hS hzz => ?_)
          refine lv_topi (fun b6 eb6 => ?_)
          replace h := nm_a eb6 h
          have hzb6 : b6 = 0 ∨ b6 = 1 := by rw [eb6]; exact hzz
          refine lv_if_eq (tgt := 42) hx hb dX11_nth_28 (by decide) (fun c7 => ?_) (fun c7 => ?_)
          · replace h := sh_t c7 h
            obtain ⟨v8, ev8⟩ : ∃ y : Int32, y = i4 + (1 : Int32) := ⟨_, rfl⟩
            replace h := nm_a ev8 h
            refine lv_iinc (v := v8) (lv' := [(4, .int v8), (0, .long x0), (2, .int x2), (3, .int i3)]) hx hb dX11_nth_42 hl (k := 3) rfl (by rw [ev8]; rfl) (by decide) rfl (fun ls hl => ?_)
            refine lv_goto (tgt := 15) hx hb dX11_nth_45 (by decide) ?_
            exact ih2 i3 v8 _ _ _ hW hS (lv_sub hl [1, 2, 3, 0] rfl) h
          · replace h := sh_f c7 h
            refine lv_iload_n hx hb dX11_nth_31 rfl (lv_at hl 2 rfl) ?_
            refine lv_iload_n hx hb dX11_nth_32 rfl (lv_at hl 1 rfl) ?_
            refine lv_icmp_ne (tgt := 39) hx hb dX11_nth_33 (by decide) (fun c9 => ?_) (fun c9 => ?_)
            · replace h := sh_f c9 h
              obtain ⟨v10, ev10⟩ : ∃ y : Int32, y = i3 + (1 : Int32) := ⟨_, rfl⟩
              replace h := nm_a ev10 h
              refine lv_iinc (v := v10) (lv' := [(3, .int v10), (0, .long x0), (2, .int x2), (4, .int i4)]) hx hb dX11_nth_39 hl (k := 2) rfl (by rw [ev10]; rfl) (by decide) rfl (fun ls hl => ?_)
              obtain ⟨v11, ev11⟩ : ∃ y : Int32, y = i4 + (1 : Int32) := ⟨_, rfl⟩
              replace h := nm_a ev11 h
              refine lv_iinc (v := v11) (lv' := [(4, .int v11), (3, .int v10), (0, .long x0), (2, .int x2)]) hx hb dX11_nth_42 hl (k := 3) rfl (by rw [ev11]; rfl) (by decide) rfl (fun ls hl => ?_)
              refine lv_goto (tgt := 15) hx hb dX11_nth_45 (by decide) ?_
              exact ih2 v10 v11 _ _ _ hW hS (lv_sub hl [2, 3, 1, 0] rfl) h
            · replace h := sh_t c9 h
              refine lv_iload hx hb dX11_nth_36 (lv_at hl 3 rfl) ?_
              exact tb_iretO h hx hb hr hS hW hlk dX11_nth_38
    exact L2 FU (0 : Int32) (0 : Int32) _ _ _ hW hS (lv_sub hl [2, 3, 1, 0] rfl) h
  · replace h := sh_t c1 h
    refine lv_lload_n hx hb dX11_nth_5 rfl (lv_at hl 0 rfl) ?_
    refine tb_cSI hZk hx hb hml hown hts hK hZ hW hS [.long x0] (mJ13_bitCount_95d88 (l := l) hZk x0 M0 (fJ13_bitCount_95d88 x0) rfl) pmJ13_bitCount_95d88 tw662 ⟨Nat.le_of_ble_eq_true rfl, Nat.le_of_ble_eq_true rfl⟩ rfl hl.1 (Nat.le_of_ble_eq_true rfl) ⟨Nat.le_refl _, Nat.le_refl _⟩ rfl dX11_nth_6 (fun H locs hW hS => ?_)
    exact tb_iretO h hx hb hr hS hW hlk dX11_nth_9
