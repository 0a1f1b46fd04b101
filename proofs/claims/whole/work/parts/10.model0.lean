def fJ9_floorDiv_f86c9 (x0 : Int64) (x2 : Int64) : Option Int64 :=
  nzL x2 <| nm (x0 / x2) fun v1 => if 0 ≤ (lg_cmp (x0 ^^^ x2) (0 : Int64)) then (some v1) else (if (lg_cmp (v1 * x2) x0) = 0 then (some v1) else (some (v1 - (1 : Int64))))
set_option maxHeartbeats 4000000 in
set_option maxRecDepth 100000 in
theorem mJ9_floorDiv_f86c9 {l : Launch} {D : va_G} {cy : Nat → ClassId} {A : Nat → Prop} {Z : State → Heap → Prop} {cn : Nat → Nat} {ad : Nat → Nat → Nat} (hZk : ZOK A Z) (x0 : Int64) (x2 : Int64) (M0 : Mem) (r : Int64) (h : fJ9_floorDiv_f86c9 x0 x2 = some r) : Met l yJ9_floorDiv_f86c9 (wt yJ9_floorDiv_f86c9 cJ9_floorDiv_f86c9 6 (some .long)) (rm 0 0) (CPre D cy A Z cn ad M0 [.long x0, .long x2]) (QL D cy A cn ad r M0) 0 0 A := by
  refine tb_start [.long x0, .long x2] [(0, .long x0), (2, .long x2)] RJ9 rfl (by decide +kernel) (Nat.le_of_ble_eq_true rfl) rfl (fun p e s m args below meth c hx hb hr hml hown hts hlk hW hK hZ ls hl => ?_)
  have hS : va_S A s.heap s.heap [] := va_S.rf
  unfold fJ9_floorDiv_f86c9 at h
  refine lv_lload_n hx hb dJ9_floorDiv_f86c9_0 rfl (lv_at hl 0 rfl) ?_
  refine lv_lload_n hx hb dJ9_floorDiv_f86c9_1 rfl (lv_at hl 1 rfl) ?_
  obtain ⟨hne, h⟩ := nzL_a h
  refine lv_ldiv hx hb dJ9_floorDiv_f86c9_2 hne ?_
  refine lv_topl (fun v1 ev1 => ?_)
  have h := nm_a ev1 h
  refine lv_lstore (lv' := [(4, .long v1), (0, .long x0), (2, .long x2)]) hx hb dJ9_floorDiv_f86c9_3 hl (by decide) rfl (fun ls hl => ?_)
  refine lv_lload_n hx hb dJ9_floorDiv_f86c9_5 rfl (lv_at hl 1 rfl) ?_
  refine lv_lload_n hx hb dJ9_floorDiv_f86c9_6 rfl (lv_at hl 2 rfl) ?_
  refine lv_lxor hx hb dJ9_floorDiv_f86c9_7 ?_
  refine lv_lconst (v := (0 : Int64)) hx hb dJ9_floorDiv_f86c9_8 (by decide) ?_
  refine W.lcmp hx hb dJ9_floorDiv_f86c9_9 ?_
  refine lv_if_ge (tgt := 27) hx hb dJ9_floorDiv_f86c9_10 (by decide) (fun c2 => ?_) (fun c2 => ?_)
  · have h := sh_t c2 h
    refine lv_lload hx hb dJ9_floorDiv_f86c9_27 (lv_at hl 0 rfl) ?_
    exact tb_lretO h hx hb hr hS hW hlk dJ9_floorDiv_f86c9_29
  · have h := sh_f c2 h
    refine lv_lload hx hb dJ9_floorDiv_f86c9_13 (lv_at hl 0 rfl) ?_
    refine lv_lload_n hx hb dJ9_floorDiv_f86c9_15 rfl (lv_at hl 2 rfl) ?_
    refine lv_lmul hx hb dJ9_floorDiv_f86c9_16 ?_
    refine lv_lload_n hx hb dJ9_floorDiv_f86c9_17 rfl (lv_at hl 1 rfl) ?_
    refine W.lcmp hx hb dJ9_floorDiv_f86c9_18 ?_
    refine lv_if_eq (tgt := 27) hx hb dJ9_floorDiv_f86c9_19 (by decide) (fun c3 => ?_) (fun c3 => ?_)
    · have h := sh_t c3 h
      refine lv_lload hx hb dJ9_floorDiv_f86c9_27 (lv_at hl 0 rfl) ?_
      exact tb_lretO h hx hb hr hS hW hlk dJ9_floorDiv_f86c9_29
    · have h := sh_f c3 h
      refine lv_lload hx hb dJ9_floorDiv_f86c9_22 (lv_at hl 0 rfl) ?_
      refine lv_lconst (v := (1 : Int64)) hx hb dJ9_floorDiv_f86c9_24 (by decide) ?_
      refine lv_lsub hx hb dJ9_floorDiv_f86c9_25 ?_
      exact tb_lretO h hx hb hr hS hW hlk dJ9_floorDiv_f86c9_26
def fX12_in (x0 : Int32) (x1 : Int32) (x2 : Int32) : Int32 :=
  if x0 < x1 then ((0 : Int32)) else (if x2 < x0 then ((0 : Int32)) else ((1 : Int32)))
set_option maxHeartbeats 4000000 in
set_option maxRecDepth 100000 in
theorem mX12_in {l : Launch} {D : va_G} {cy : Nat → ClassId} {A : Nat → Prop} {Z : State → Heap → Prop} {ad : Nat → Nat → Nat} (hZk : ZOK A Z) (x0 : Int32) (x1 : Int32) (x2 : Int32) (M0 : Mem) (r : Int32) (h : fX12_in x0 x1 x2 = r) : Met l yX12_in (wt yX12_in cX12_in 3 (some .boolean)) (rm 0 0) (CPre D cy A Z cnM ad M0 [.int x0, .int x1, .int x2]) (QZ D cy A cnM ad r M0) 0 0 A := by
  refine tb_start [.int x0, .int x1, .int x2] [(0, .int x0), (1, .int x1), (2, .int x2)] RX12 rfl (by decide +kernel) (Nat.le_of_ble_eq_true rfl) rfl (fun p e s m args below meth c hx hb hr hml hown hts hlk hW hK hZ ls hl => ?_)
  have hS : va_S A s.heap s.heap [] := va_S.rf
  unfold fX12_in at h
  refine lv_iload_n hx hb dX12_in_0 rfl (lv_at hl 0 rfl) ?_
  refine lv_iload_n hx hb dX12_in_1 rfl (lv_at hl 1 rfl) ?_
  refine lv_icmp_lt (tgt := 14) hx hb dX12_in_2 (by decide) (fun c1 => ?_) (fun c1 => ?_)
  · have h := sh_t c1 h
    refine lv_iconst (v := (0 : Int32)) hx hb dX12_in_14 (by decide) ?_
    exact tb_zretP h hx hb hr hS hW hlk (by decide) dX12_in_15
  · have h := sh_f c1 h
    refine lv_iload_n hx hb dX12_in_5 rfl (lv_at hl 0 rfl) ?_
    refine lv_iload_n hx hb dX12_in_6 rfl (lv_at hl 2 rfl) ?_
    refine lv_icmp_gt (tgt := 14) hx hb dX12_in_7 (by decide) (fun c2 => ?_) (fun c2 => ?_)
    · have h := sh_t c2 h
      refine lv_iconst (v := (0 : Int32)) hx hb dX12_in_14 (by decide) ?_
      exact tb_zretP h hx hb hr hS hW hlk (by decide) dX12_in_15
    · have h := sh_f c2 h
      refine lv_iconst (v := (1 : Int32)) hx hb dX12_in_10 (by decide) ?_
      refine lv_goto (tgt := 15) hx hb dX12_in_11 (by decide) ?_
      exact tb_zretP h hx hb hr hS hW hlk (by decide) dX12_in_15
def fX12_bitsOf_b4 (k1 : Int32 → Int64 → Option Int32) (i2 : Int32) (j3 : Int64) : Option Int32 :=
  if (lg_cmp j3 (0 : Int64)) = 0 then (some i2) else (nm (i2 + (1 : Int32)) fun v5 => nm (j3 &&& (j3 - (1 : Int64))) fun v6 => k1 v5 v6)
def fX12_bitsOf_l4 : Nat → Int32 → Int64 → Option Int32
  | 0, _, _ => none
  | n + 1, i2, j3 => fX12_bitsOf_b4 (fX12_bitsOf_l4 n) i2 j3
def fX12_bitsOf (x0 : Int64) : Option Int32 :=
  fX12_bitsOf_l4 FU (0 : Int32) x0
set_option maxHeartbeats 4000000 in
set_option maxRecDepth 100000 in
theorem mX12_bitsOf {l : Launch} {D : va_G} {cy : Nat → ClassId} {A : Nat → Prop} {Z : State → Heap → Prop} {ad : Nat → Nat → Nat} (hZk : ZOK A Z) (x0 : Int64) (M0 : Mem) (r : Int32) (h : fX12_bitsOf x0 = some r) : Met l yX12_bitsOf (wt yX12_bitsOf cX12_bitsOf 5 (some .int)) (rm 0 0) (CPre D cy A Z cnM ad M0 [.long x0]) (QI D cy A cnM ad r M0) 0 0 A := by
  refine tb_start [.long x0] [(0, .long x0)] RX12 rfl (by decide +kernel) (Nat.le_of_ble_eq_true rfl) rfl (fun p e s m args below meth c hx hb hr hml hown hts hlk hW hK hZ ls hl => ?_)
  have hS : va_S A s.heap s.heap [] := va_S.rf
  unfold fX12_bitsOf at h
  refine lv_iconst (v := (0 : Int32)) hx hb dX12_bitsOf_0 (by decide) ?_
  refine lv_istore_n (lv' := [(2, .int (0 : Int32)), (0, .long x0)]) hx hb dX12_bitsOf_1 rfl hl (by decide) rfl (fun ls hl => ?_)
  refine lv_lload_n hx hb dX12_bitsOf_2 rfl (lv_at hl 1 rfl) ?_
  refine lv_lstore_n (lv' := [(3, .long x0), (2, .int (0 : Int32)), (0, .long x0)]) hx hb dX12_bitsOf_3 rfl hl (by decide) rfl (fun ls hl => ?_)
  have L1 : ∀ (n1 : Nat) (i2 : Int32) (j3 : Int64) (H : Heap) (locs : List Loc) (ls : Array Slot), Wd D cy A cnM ad M0 H → va_S A s.heap H locs → lv_has ls 5 [(2, .int i2), (3, .long j3)] → fX12_bitsOf_l4 n1 i2 j3 = some r → W p l e (rm 0 0) s m args below meth c H locs 0 0 (MQ below (QI D cy A cnM ad r M0) args s 0 0 A) (F0 m 4 ls []) := by
    intro n1
    induction n1 with
    | zero => intro i2 j3 H locs ls hW hS hl h; cases h
    | succ n1 ih1 =>
      intro i2 j3 H locs ls hW hS hl h
      unfold fX12_bitsOf_l4 fX12_bitsOf_b4 at h
      refine lv_lload_n hx hb dX12_bitsOf_4 rfl (lv_at hl 1 rfl) ?_
      refine lv_lconst (v := (0 : Int64)) hx hb dX12_bitsOf_5 (by decide) ?_
      refine W.lcmp hx hb dX12_bitsOf_6 ?_
      refine lv_if_eq (tgt := 22) hx hb dX12_bitsOf_7 (by decide) (fun c4 => ?_) (fun c4 => ?_)
      · have h := sh_t c4 h
        refine lv_iload_n hx hb dX12_bitsOf_22 rfl (lv_at hl 0 rfl) ?_
        exact tb_iretO h hx hb hr hS hW hlk dX12_bitsOf_23
      · have h := sh_f c4 h
        obtain ⟨v5, ev5⟩ : ∃ y : Int32, y = i2 + (1 : Int32) := ⟨_, rfl⟩
        have h := nm_a ev5 h
        refine lv_iinc (v := v5) (lv' := [(2, .int v5), (3, .long j3)]) hx hb dX12_bitsOf_10 hl (k := 0) rfl (by rw [ev5]; rfl) (by decide) rfl (fun ls hl => ?_)
        refine lv_lload_n hx hb dX12_bitsOf_13 rfl (lv_at hl 1 rfl) ?_
        refine lv_lload_n hx hb dX12_bitsOf_14 rfl (lv_at hl 1 rfl) ?_
        refine lv_lconst (v := (1 : Int64)) hx hb dX12_bitsOf_15 (by decide) ?_
        refine lv_lsub hx hb dX12_bitsOf_16 ?_
        refine lv_land hx hb dX12_bitsOf_17 ?_
        refine lv_topl (fun v6 ev6 => ?_)
        have h := nm_a ev6 h
        refine lv_lstore_n (lv' := [(3, .long v6), (2, .int v5)]) hx hb dX12_bitsOf_18 rfl hl (by decide) rfl (fun ls hl => ?_)
        refine lv_goto (tgt := 4) hx hb dX12_bitsOf_19 (by decide) ?_
        exact ih1 v5 v6 _ _ _ hW hS (lv_sub hl [1, 0] rfl) h
  exact L1 FU (0 : Int32) x0 _ _ _ hW hS (lv_sub hl [1, 0] rfl) h
def fX12_isStone (x1 : Int32) (M0 : Mem) : Int32 :=
  nm (fX12_in x1 (0 : Int32) ((mgI M0 1202 0 0) - (1 : Int32))) fun b1 => b1
set_option maxHeartbeats 4000000 in
set_option maxRecDepth 100000 in
theorem mX12_isStone {l : Launch} {D : va_G} {cy : Nat → ClassId} {A : Nat → Prop} {Z : State → Heap → Prop} {ad : Nat → Nat → Nat} (hZk : ZOK A Z) (x1 : Int32) (M0 : Mem) (r : Int32) (h : fX12_isStone x1 M0 = r) : Met l yX12_isStone (wt yX12_isStone cX12_isStone 2 (some .boolean)) (rm 1 22) (CPre D cy A Z cnM ad M0 [.ref (ad 12 0), .int x1]) (QZ D cy A cnM ad r M0) 0 0 A := by
  refine tb_start [.ref (ad 12 0), .int x1] [(0, .ref (ad 12 0)), (1, .int x1)] RX12 rfl (by decide +kernel) (Nat.le_of_ble_eq_true rfl) rfl (fun p e s m args below meth c hx hb hr hml hown hts hlk hW hK hZ ls hl => ?_)
  have hS : va_S A s.heap s.heap [] := va_S.rf
  unfold fX12_isStone at h
  refine lv_iload_n hx hb dX12_isStone_0 rfl (lv_at hl 1 rfl) ?_
  refine lv_iconst (v := (0 : Int32)) hx hb dX12_isStone_1 (by decide) ?_
  refine lv_aload_n hx hb dX12_isStone_2 rfl (lv_at hl 0 rfl) ?_
  refine gtX12_147 hx hb hts hown hK hW cz12 dX12_isStone_3 ?_
  refine lv_iconst (v := (1 : Int32)) hx hb dX12_isStone_6 (by decide) ?_
  refine lv_isub hx hb dX12_isStone_7 ?_
  refine tb_cSZ hZk hx hb hml hown hts hK hZ hW hS [.int x1, .int (0 : Int32), .int ((mgI M0 1202 0 0) - (1 : Int32))] (mX12_in (l := l) hZk x1 (0 : Int32) ((mgI M0 1202 0 0) - (1 : Int32)) M0 (fX12_in x1 (0 : Int32) ((mgI M0 1202 0 0) - (1 : Int32))) rfl) pmX12_in tw1401 ⟨Nat.le_of_ble_eq_true rfl, Nat.le_of_ble_eq_true rfl⟩ rfl hl.1 (Nat.le_of_ble_eq_true rfl) ⟨Nat.le_refl _, Nat.le_refl _⟩ rfl dX12_isStone_8 (fun H locs hW hS hzz => ?_)
  refine lv_topi (fun b1 eb1 => ?_)
  have h := nm_a eb1 h
  have hzb1 : b1 = 0 ∨ b1 = 1 := by rw [eb1]; exact hzz
  exact tb_zretP h hx hb hr hS hW hlk hzb1 dX12_isStone_11
def fX12_isLine (x1 : Int32) (M0 : Mem) : Int32 :=
  nm (fX12_in x1 (0 : Int32) ((mgI M0 1212 0 0) - (1 : Int32))) fun b1 => b1
set_option maxHeartbeats 4000000 in
set_option maxRecDepth 100000 in
theorem mX12_isLine {l : Launch} {D : va_G} {cy : Nat → ClassId} {A : Nat → Prop} {Z : State → Heap → Prop} {ad : Nat → Nat → Nat} (hZk : ZOK A Z) (x1 : Int32) (M0 : Mem) (r : Int32) (h : fX12_isLine x1 M0 = r) : Met l yX12_isLine (wt yX12_isLine cX12_isLine 2 (some .boolean)) (rm 1 22) (CPre D cy A Z cnM ad M0 [.ref (ad 12 0), .int x1]) (QZ D cy A cnM ad r M0) 0 0 A := by
  refine tb_start [.ref (ad 12 0), .int x1] [(0, .ref (ad 12 0)), (1, .int x1)] RX12 rfl (by decide +kernel) (Nat.le_of_ble_eq_true rfl) rfl (fun p e s m args below meth c hx hb hr hml hown hts hlk hW hK hZ ls hl => ?_)
  have hS : va_S A s.heap s.heap [] := va_S.rf
  unfold fX12_isLine at h
  refine lv_iload_n hx hb dX12_isLine_0 rfl (lv_at hl 1 rfl) ?_
  refine lv_iconst (v := (0 : Int32)) hx hb dX12_isLine_1 (by decide) ?_
  refine lv_aload_n hx hb dX12_isLine_2 rfl (lv_at hl 0 rfl) ?_
  refine gtX12_154 hx hb hts hown hK hW cz12 dX12_isLine_3 ?_
  refine lv_iconst (v := (1 : Int32)) hx hb dX12_isLine_6 (by decide) ?_
  refine lv_isub hx hb dX12_isLine_7 ?_
  refine tb_cSZ hZk hx hb hml hown hts hK hZ hW hS [.int x1, .int (0 : Int32), .int ((mgI M0 1212 0 0) - (1 : Int32))] (mX12_in (l := l) hZk x1 (0 : Int32) ((mgI M0 1212 0 0) - (1 : Int32)) M0 (fX12_in x1 (0 : Int32) ((mgI M0 1212 0 0) - (1 : Int32))) rfl) pmX12_in tw1401 ⟨Nat.le_of_ble_eq_true rfl, Nat.le_of_ble_eq_true rfl⟩ rfl hl.1 (Nat.le_of_ble_eq_true rfl) ⟨Nat.le_refl _, Nat.le_refl _⟩ rfl dX12_isLine_8 (fun H locs hW hS hzz => ?_)
  refine lv_topi (fun b1 eb1 => ?_)
  have h := nm_a eb1 h
  have hzb1 : b1 = 0 ∨ b1 = 1 := by rw [eb1]; exact hzz
  exact tb_zretP h hx hb hr hS hW hlk hzb1 dX12_isLine_11
def fX12_isTold (x0 : Int32) (x1 : Int32) (x2 : Int32) : Int32 :=
  if x0 = (1 : Int32) then (nm (fX12_in x1 (-999 : Int32) (999 : Int32)) fun b10 => if b10 = 0 then ((0 : Int32)) else (nm (fX12_in x2 (1 : Int32) (999 : Int32)) fun b12 => if b12 = 0 then ((0 : Int32)) else ((1 : Int32)))) else (if x0 = (3 : Int32) then (nm (fX12_in x1 (-999 : Int32) (999 : Int32)) fun b6 => if b6 = 0 then ((0 : Int32)) else (if x2 < 0 then ((0 : Int32)) else (if (7 : Int32) < (x2 / (100 : Int32)) then ((0 : Int32)) else ((1 : Int32))))) else (if x0 = (5 : Int32) then (nm (fX12_in x1 (1 : Int32) (9 : Int32)) fun b4 => if b4 = 0 then ((0 : Int32)) else ((1 : Int32))) else ((1 : Int32))))
set_option maxHeartbeats 4000000 in
set_option maxRecDepth 100000 in
theorem mX12_isTold {l : Launch} {D : va_G} {cy : Nat → ClassId} {A : Nat → Prop} {Z : State → Heap → Prop} {ad : Nat → Nat → Nat} (hZk : ZOK A Z) (x0 : Int32) (x1 : Int32) (x2 : Int32) (M0 : Mem) (r : Int32) (h : fX12_isTold x0 x1 x2 = r) : Met l yX12_isTold (wt yX12_isTold cX12_isTold 3 (some .boolean)) (rm 1 22) (CPre D cy A Z cnM ad M0 [.int x0, .int x1, .int x2]) (QZ D cy A cnM ad r M0) 0 0 A := by
  refine tb_start [.int x0, .int x1, .int x2] [(0, .int x0), (1, .int x1), (2, .int x2)] RX12 rfl (by decide +kernel) (Nat.le_of_ble_eq_true rfl) rfl (fun p e s m args below meth c hx hb hr hml hown hts hlk hW hK hZ ls hl => ?_)
  have hS : va_S A s.heap s.heap [] := va_S.rf
  unfold fX12_isTold at h
  refine lv_iload_n hx hb dX12_isTold_0 rfl (lv_at hl 0 rfl) ?_
  refine lv_iconst (v := (1 : Int32)) hx hb dX12_isTold_1 (by decide) ?_
  refine lv_icmp_ne (tgt := 35) hx hb dX12_isTold_2 (by decide) (fun c1 => ?_) (fun c1 => ?_)
  · have h := sh_f c1 h
    refine lv_iload_n hx hb dX12_isTold_35 rfl (lv_at hl 0 rfl) ?_
    refine lv_iconst (v := (3 : Int32)) hx hb dX12_isTold_36 (by decide) ?_
    refine lv_icmp_ne (tgt := 72) hx hb dX12_isTold_37 (by decide) (fun c2 => ?_) (fun c2 => ?_)
    · have h := sh_f c2 h
      refine lv_iload_n hx hb dX12_isTold_72 rfl (lv_at hl 0 rfl) ?_
      refine lv_iconst (v := (5 : Int32)) hx hb dX12_isTold_73 (by decide) ?_
      refine lv_icmp_ne (tgt := 87) hx hb dX12_isTold_74 (by decide) (fun c3 => ?_) (fun c3 => ?_)
      · have h := sh_f c3 h
        refine lv_iconst (v := (1 : Int32)) hx hb dX12_isTold_87 (by decide) ?_
        refine lv_goto (tgt := 92) hx hb dX12_isTold_88 (by decide) ?_
        exact tb_zretP h hx hb hr hS hW hlk (by decide) dX12_isTold_92
      · have h := sh_t c3 h
        refine lv_iload_n hx hb dX12_isTold_77 rfl (lv_at hl 1 rfl) ?_
        refine lv_iconst (v := (1 : Int32)) hx hb dX12_isTold_78 (by decide) ?_
        refine lv_bipush (v := (9 : Int32)) hx hb dX12_isTold_79 (by decide) ?_
        refine tb_cSZ hZk hx hb hml hown hts hK hZ hW hS [.int x1, .int (1 : Int32), .int (9 : Int32)] (mX12_in (l := l) hZk x1 (1 : Int32) (9 : Int32) M0 (fX12_in x1 (1 : Int32) (9 : Int32)) rfl) pmX12_in tw1401 ⟨Nat.le_of_ble_eq_true rfl, Nat.le_of_ble_eq_true rfl⟩ rfl hl.1 (Nat.le_of_ble_eq_true rfl) ⟨Nat.le_refl _, Nat.le_refl _⟩ rfl dX12_isTold_81 (fun H locs hW hS hzz => ?_)
        refine lv_topi (fun b4 eb4 => ?_)
        have h := nm_a eb4 h
        have hzb4 : b4 = 0 ∨ b4 = 1 := by rw [eb4]; exact hzz
        refine lv_if_eq (tgt := 91) hx hb dX12_isTold_84 (by decide) (fun c5 => ?_) (fun c5 => ?_)
        · have h := sh_t c5 h
          refine lv_iconst (v := (0 : Int32)) hx hb dX12_isTold_91 (by decide) ?_
          exact tb_zretP h hx hb hr hS hW hlk (by decide) dX12_isTold_92
        · have h := sh_f c5 h
          refine lv_iconst (v := (1 : Int32)) hx hb dX12_isTold_87 (by decide) ?_
          refine lv_goto (tgt := 92) hx hb dX12_isTold_88 (by decide) ?_
          exact tb_zretP h hx hb hr hS hW hlk (by decide) dX12_isTold_92
    · have h := sh_t c2 h
      refine lv_iload_n hx hb dX12_isTold_40 rfl (lv_at hl 1 rfl) ?_
      refine lv_sipush (v := (-999 : Int32)) hx hb dX12_isTold_41 (by decide) ?_
      refine lv_sipush (v := (999 : Int32)) hx hb dX12_isTold_44 (by decide) ?_
      refine tb_cSZ hZk hx hb hml hown hts hK hZ hW hS [.int x1, .int (-999 : Int32), .int (999 : Int32)] (mX12_in (l := l) hZk x1 (-999 : Int32) (999 : Int32) M0 (fX12_in x1 (-999 : Int32) (999 : Int32)) rfl) pmX12_in tw1401 ⟨Nat.le_of_ble_eq_true rfl, Nat.le_of_ble_eq_true rfl⟩ rfl hl.1 (Nat.le_of_ble_eq_true rfl) ⟨Nat.le_refl _, Nat.le_refl _⟩ rfl dX12_isTold_47 (fun H locs hW hS hzz => ?_)
      refine lv_topi (fun b6 eb6 => ?_)
      have h := nm_a eb6 h
      have hzb6 : b6 = 0 ∨ b6 = 1 := by rw [eb6]; exact hzz
      refine lv_if_eq (tgt := 70) hx hb dX12_isTold_50 (by decide) (fun c7 => ?_) (fun c7 => ?_)
      · have h := sh_t c7 h
        refine lv_iconst (v := (0 : Int32)) hx hb dX12_isTold_70 (by decide) ?_
        exact tb_zretP h hx hb hr hS hW hlk (by decide) dX12_isTold_71
      · have h := sh_f c7 h
        refine lv_iload_n hx hb dX12_isTold_53 rfl (lv_at hl 2 rfl) ?_
        refine lv_if_lt (tgt := 70) hx hb dX12_isTold_54 (by decide) (fun c8 => ?_) (fun c8 => ?_)
        · have h := sh_t c8 h
          refine lv_iconst (v := (0 : Int32)) hx hb dX12_isTold_70 (by decide) ?_
          exact tb_zretP h hx hb hr hS hW hlk (by decide) dX12_isTold_71
        · have h := sh_f c8 h
          refine lv_iload_n hx hb dX12_isTold_57 rfl (lv_at hl 2 rfl) ?_
          refine lv_bipush (v := (100 : Int32)) hx hb dX12_isTold_58 (by decide) ?_
          refine lv_idiv hx hb dX12_isTold_60 (by decide) ?_
          refine lv_bipush (v := (7 : Int32)) hx hb dX12_isTold_61 (by decide) ?_
          refine lv_icmp_gt (tgt := 70) hx hb dX12_isTold_63 (by decide) (fun c9 => ?_) (fun c9 => ?_)
          · have h := sh_t c9 h
            refine lv_iconst (v := (0 : Int32)) hx hb dX12_isTold_70 (by decide) ?_
            exact tb_zretP h hx hb hr hS hW hlk (by decide) dX12_isTold_71
          · have h := sh_f c9 h
            refine lv_iconst (v := (1 : Int32)) hx hb dX12_isTold_66 (by decide) ?_
            refine lv_goto (tgt := 71) hx hb dX12_isTold_67 (by decide) ?_
            exact tb_zretP h hx hb hr hS hW hlk (by decide) dX12_isTold_71
  · have h := sh_t c1 h
    refine lv_iload_n hx hb dX12_isTold_5 rfl (lv_at hl 1 rfl) ?_
    refine lv_sipush (v := (-999 : Int32)) hx hb dX12_isTold_6 (by decide) ?_
    refine lv_sipush (v := (999 : Int32)) hx hb dX12_isTold_9 (by decide) ?_
    refine tb_cSZ hZk hx hb hml hown hts hK hZ hW hS [.int x1, .int (-999 : Int32), .int (999 : Int32)] (mX12_in (l := l) hZk x1 (-999 : Int32) (999 : Int32) M0 (fX12_in x1 (-999 : Int32) (999 : Int32)) rfl) pmX12_in tw1401 ⟨Nat.le_of_ble_eq_true rfl, Nat.le_of_ble_eq_true rfl⟩ rfl hl.1 (Nat.le_of_ble_eq_true rfl) ⟨Nat.le_refl _, Nat.le_refl _⟩ rfl dX12_isTold_12 (fun H locs hW hS hzz => ?_)
    refine lv_topi (fun b10 eb10 => ?_)
    have h := nm_a eb10 h
    have hzb10 : b10 = 0 ∨ b10 = 1 := by rw [eb10]; exact hzz
    refine lv_if_eq (tgt := 33) hx hb dX12_isTold_15 (by decide) (fun c11 => ?_) (fun c11 => ?_)
    · have h := sh_t c11 h
      refine lv_iconst (v := (0 : Int32)) hx hb dX12_isTold_33 (by decide) ?_
      exact tb_zretP h hx hb hr hS hW hlk (by decide) dX12_isTold_34
    · have h := sh_f c11 h
      refine lv_iload_n hx hb dX12_isTold_18 rfl (lv_at hl 2 rfl) ?_
      refine lv_iconst (v := (1 : Int32)) hx hb dX12_isTold_19 (by decide) ?_
      refine lv_sipush (v := (999 : Int32)) hx hb dX12_isTold_20 (by decide) ?_
      refine tb_cSZ hZk hx hb hml hown hts hK hZ hW hS [.int x2, .int (1 : Int32), .int (999 : Int32)] (mX12_in (l := l) hZk x2 (1 : Int32) (999 : Int32) M0 (fX12_in x2 (1 : Int32) (999 : Int32)) rfl) pmX12_in tw1401 ⟨Nat.le_of_ble_eq_true rfl, Nat.le_of_ble_eq_true rfl⟩ rfl hl.1 (Nat.le_of_ble_eq_true rfl) ⟨Nat.le_refl _, Nat.le_refl _⟩ rfl dX12_isTold_23 (fun H locs hW hS hzz => ?_)
      refine lv_topi (fun b12 eb12 => ?_)
      have h := nm_a eb12 h
      have hzb12 : b12 = 0 ∨ b12 = 1 := by rw [eb12]; exact hzz
      refine lv_if_eq (tgt := 33) hx hb dX12_isTold_26 (by decide) (fun c13 => ?_) (fun c13 => ?_)
      · have h := sh_t c13 h
        refine lv_iconst (v := (0 : Int32)) hx hb dX12_isTold_33 (by decide) ?_
        exact tb_zretP h hx hb hr hS hW hlk (by decide) dX12_isTold_34
      · have h := sh_f c13 h
        refine lv_iconst (v := (1 : Int32)) hx hb dX12_isTold_29 (by decide) ?_
        refine lv_goto (tgt := 34) hx hb dX12_isTold_30 (by decide) ?_
        exact tb_zretP h hx hb hr hS hW hlk (by decide) dX12_isTold_34
def fX12_stone (x1 : Int32) (x2 : Int32) (x3 : Int32) (M0 : Mem) : Option (Int32 × Mem) :=
  nm (fX12_in x1 (0 : Int32) (5 : Int32)) fun b1 => if b1 = 0 then (some ((-1 : Int32), M0)) else (nm (fX12_isTold x1 x2 x3) fun b3 => if b3 = 0 then (some ((-1 : Int32), M0)) else (if (mgI M0 1202 0 0) = (64 : Int32) then (some ((-3 : Int32), M0)) else (ix (mgI M0 1202 0 0) 64 <| nm (msI M0 5000 0 ((mgI M0 1202 0 0).toNatClampNeg) x1) fun M6 => nm (mgI M6 1201 0 0) fun v7 => ix (mgI M6 1202 0 0) 64 <| nm (msI M6 5100 0 ((mgI M6 1202 0 0).toNatClampNeg) v7) fun M8 => ix (mgI M8 1202 0 0) 64 <| nm (msI M8 5200 0 ((mgI M8 1202 0 0).toNatClampNeg) x2) fun M9 => ix (mgI M9 1202 0 0) 64 <| nm (msI M9 5300 0 ((mgI M9 1202 0 0).toNatClampNeg) x3) fun M10 => ix (mgI M10 1202 0 0) 64 <| nm (msI M10 5400 0 ((mgI M10 1202 0 0).toNatClampNeg) (-1 : Int32)) fun M11 => ix (mgI M11 1202 0 0) 64 <| nm (msI M11 5500 0 ((mgI M11 1202 0 0).toNatClampNeg) (-1 : Int32)) fun M12 => nm ((mgI M12 1202 0 0) + (1 : Int32)) fun v13 => nm (msI M12 1202 0 0 v13) fun M14 => some ((mgI M14 1202 0 0) - (1 : Int32), M14))))
set_option maxHeartbeats 4000000 in
set_option maxRecDepth 100000 in
theorem mX12_stone {l : Launch} {D : va_G} {cy : Nat → ClassId} {A : Nat → Prop} {Z : State → Heap → Prop} {ad : Nat → Nat → Nat} (hZk : ZOK A Z) (x1 : Int32) (x2 : Int32) (x3 : Int32) (M0 : Mem) (r : Int32) (M' : Mem) (h : fX12_stone x1 x2 x3 M0 = some (r, M')) : Met l yX12_stone (wt yX12_stone cX12_stone 4 (some .int)) (rm 2 44) (CPre D cy A Z cnM ad M0 [.ref (ad 12 0), .int x1, .int x2, .int x3]) (QI D cy A cnM ad r M') 0 0 A := by
  refine tb_start [.ref (ad 12 0), .int x1, .int x2, .int x3] [(0, .ref (ad 12 0)), (1, .int x1), (2, .int x2), (3, .int x3)] RX12 rfl (by decide +kernel) (Nat.le_of_ble_eq_true rfl) rfl (fun p e s m args below meth c hx hb hr hml hown hts hlk hW hK hZ ls hl => ?_)
  have hS : va_S A s.heap s.heap [] := va_S.rf
  unfold fX12_stone at h
  refine lv_iload_n hx hb dX12_stone_0 rfl (lv_at hl 1 rfl) ?_
  refine lv_iconst (v := (0 : Int32)) hx hb dX12_stone_1 (by decide) ?_
  refine lv_iconst (v := (5 : Int32)) hx hb dX12_stone_2 (by decide) ?_
  refine tb_cSZ hZk hx hb hml hown hts hK hZ hW hS [.int x1, .int (0 : Int32), .int (5 : Int32)] (mX12_in (l := l) hZk x1 (0 : Int32) (5 : Int32) M0 (fX12_in x1 (0 : Int32) (5 : Int32)) rfl) pmX12_in tw1401 ⟨Nat.le_of_ble_eq_true rfl, Nat.le_of_ble_eq_true rfl⟩ rfl hl.1 (Nat.le_of_ble_eq_true rfl) ⟨Nat.le_refl _, Nat.le_refl _⟩ rfl dX12_stone_3 (fun H locs hW hS hzz => ?_)
  refine lv_topi (fun b1 eb1 => ?_)
  have h := nm_a eb1 h
  have hzb1 : b1 = 0 ∨ b1 = 1 := by rw [eb1]; exact hzz
  refine lv_if_eq (tgt := 18) hx hb dX12_stone_6 (by decide) (fun c2 => ?_) (fun c2 => ?_)
  · have h := sh_t c2 h
    refine lv_iconst (v := (-1 : Int32)) hx hb dX12_stone_18 (by decide) ?_
    exact tb_iretE h hx hb hr hS hW hlk dX12_stone_19
  · have h := sh_f c2 h
    refine lv_iload_n hx hb dX12_stone_9 rfl (lv_at hl 1 rfl) ?_
    refine lv_iload_n hx hb dX12_stone_10 rfl (lv_at hl 2 rfl) ?_
    refine lv_iload_n hx hb dX12_stone_11 rfl (lv_at hl 3 rfl) ?_
    refine tb_cSZ hZk hx hb hml hown hts hK hZ hW hS [.int x1, .int x2, .int x3] (mX12_isTold (l := l) hZk x1 x2 x3 M0 (fX12_isTold x1 x2 x3) rfl) pmX12_isTold tw1404 ⟨Nat.le_of_ble_eq_true rfl, Nat.le_of_ble_eq_true rfl⟩ rfl hl.1 (Nat.le_of_ble_eq_true rfl) ⟨Nat.le_refl _, Nat.le_refl _⟩ rfl dX12_stone_12 (fun H locs hW hS hzz => ?_)
    refine lv_topi (fun b3 eb3 => ?_)
    have h := nm_a eb3 h
    have hzb3 : b3 = 0 ∨ b3 = 1 := by rw [eb3]; exact hzz
    refine lv_if_ne (tgt := 20) hx hb dX12_stone_15 (by decide) (fun c4 => ?_) (fun c4 => ?_)
    · have h := sh_f c4 h
      refine lv_aload_n hx hb dX12_stone_20 rfl (lv_at hl 0 rfl) ?_
      refine gtX12_147 hx hb hts hown hK hW cz12 dX12_stone_21 ?_
      refine lv_bipush (v := (64 : Int32)) hx hb dX12_stone_24 (by decide) ?_
      refine lv_icmp_ne (tgt := 32) hx hb dX12_stone_26 (by decide) (fun c5 => ?_) (fun c5 => ?_)
      · have h := sh_f c5 h
        refine lv_aload_n hx hb dX12_stone_32 rfl (lv_at hl 0 rfl) ?_
        refine gtX12_7 hx hb hts hown hK hW cz12 dX12_stone_33 ?_
        refine lv_aload_n hx hb dX12_stone_36 rfl (lv_at hl 0 rfl) ?_
        refine gtX12_147 hx hb hts hown hK hW cz12 dX12_stone_37 ?_
        refine lv_iload_n hx hb dX12_stone_40 rfl (lv_at hl 1 rfl) ?_
        obtain ⟨hj, h⟩ := ix_a h
        refine as50 hx hb hK hW hS cz50 hj dX12_stone_41 (fun H locs hW hS => ?_)
        obtain ⟨M6, eM6⟩ : ∃ y, y = msI M0 5000 0 ((mgI M0 1202 0 0).toNatClampNeg) x1 := ⟨_, rfl⟩
        have h := nm_a eM6 h
        rw [← eM6] at hW
        refine lv_aload_n hx hb dX12_stone_42 rfl (lv_at hl 0 rfl) ?_
        refine gtX12_13 hx hb hts hown hK hW cz12 dX12_stone_43 ?_
        refine lv_aload_n hx hb dX12_stone_46 rfl (lv_at hl 0 rfl) ?_
        refine gtX12_147 hx hb hts hown hK hW cz12 dX12_stone_47 ?_
        refine lv_aload_n hx hb dX12_stone_50 rfl (lv_at hl 0 rfl) ?_
        refine gtX12_160 hx hb hts hown hK hW cz12 dX12_stone_51 ?_
        refine lv_topi (fun v7 ev7 => ?_)
        have h := nm_a ev7 h
        obtain ⟨hj, h⟩ := ix_a h
        refine as51 hx hb hK hW hS cz51 hj dX12_stone_54 (fun H locs hW hS => ?_)
        obtain ⟨M8, eM8⟩ : ∃ y, y = msI M6 5100 0 ((mgI M6 1202 0 0).toNatClampNeg) v7 := ⟨_, rfl⟩
        have h := nm_a eM8 h
        rw [← eM8] at hW
        refine lv_aload_n hx hb dX12_stone_55 rfl (lv_at hl 0 rfl) ?_
        refine gtX12_16 hx hb hts hown hK hW cz12 dX12_stone_56 ?_
        refine lv_aload_n hx hb dX12_stone_59 rfl (lv_at hl 0 rfl) ?_
        refine gtX12_147 hx hb hts hown hK hW cz12 dX12_stone_60 ?_
        refine lv_iload_n hx hb dX12_stone_63 rfl (lv_at hl 2 rfl) ?_
        obtain ⟨hj, h⟩ := ix_a h
        refine as52 hx hb hK hW hS cz52 hj dX12_stone_64 (fun H locs hW hS => ?_)
        obtain ⟨M9, eM9⟩ : ∃ y, y = msI M8 5200 0 ((mgI M8 1202 0 0).toNatClampNeg) x2 := ⟨_, rfl⟩
        have h := nm_a eM9 h
        rw [← eM9] at hW
        refine lv_aload_n hx hb dX12_stone_65 rfl (lv_at hl 0 rfl) ?_
        refine gtX12_19 hx hb hts hown hK hW cz12 dX12_stone_66 ?_
        refine lv_aload_n hx hb dX12_stone_69 rfl (lv_at hl 0 rfl) ?_
        refine gtX12_147 hx hb hts hown hK hW cz12 dX12_stone_70 ?_
        refine lv_iload_n hx hb dX12_stone_73 rfl (lv_at hl 3 rfl) ?_
        obtain ⟨hj, h⟩ := ix_a h
        refine as53 hx hb hK hW hS cz53 hj dX12_stone_74 (fun H locs hW hS => ?_)
        obtain ⟨M10, eM10⟩ : ∃ y, y = msI M9 5300 0 ((mgI M9 1202 0 0).toNatClampNeg) x3 := ⟨_, rfl⟩
        have h := nm_a eM10 h
        rw [← eM10] at hW
        refine lv_aload_n hx hb dX12_stone_75 rfl (lv_at hl 0 rfl) ?_
        refine gtX12_22 hx hb hts hown hK hW cz12 dX12_stone_76 ?_
        refine lv_aload_n hx hb dX12_stone_79 rfl (lv_at hl 0 rfl) ?_
        refine gtX12_147 hx hb hts hown hK hW cz12 dX12_stone_80 ?_
        refine lv_iconst (v := (-1 : Int32)) hx hb dX12_stone_83 (by decide) ?_
        obtain ⟨hj, h⟩ := ix_a h
        refine as54 hx hb hK hW hS cz54 hj dX12_stone_84 (fun H locs hW hS => ?_)
        obtain ⟨M11, eM11⟩ : ∃ y, y = msI M10 5400 0 ((mgI M10 1202 0 0).toNatClampNeg) (-1 : Int32) := ⟨_, rfl⟩
        have h := nm_a eM11 h
        rw [← eM11] at hW
        refine lv_aload_n hx hb dX12_stone_85 rfl (lv_at hl 0 rfl) ?_
        refine gtX12_25 hx hb hts hown hK hW cz12 dX12_stone_86 ?_
        refine lv_aload_n hx hb dX12_stone_89 rfl (lv_at hl 0 rfl) ?_
        refine gtX12_147 hx hb hts hown hK hW cz12 dX12_stone_90 ?_
        refine lv_iconst (v := (-1 : Int32)) hx hb dX12_stone_93 (by decide) ?_
        obtain ⟨hj, h⟩ := ix_a h
        refine as55 hx hb hK hW hS cz55 hj dX12_stone_94 (fun H locs hW hS => ?_)
        obtain ⟨M12, eM12⟩ : ∃ y, y = msI M11 5500 0 ((mgI M11 1202 0 0).toNatClampNeg) (-1 : Int32) := ⟨_, rfl⟩
        have h := nm_a eM12 h
        rw [← eM12] at hW
        refine lv_aload_n hx hb dX12_stone_95 rfl (lv_at hl 0 rfl) ?_
        refine lv_dup hx hb dX12_stone_96 rfl ?_
        refine gtX12_147 hx hb hts hown hK hW cz12 dX12_stone_97 ?_
        refine lv_iconst (v := (1 : Int32)) hx hb dX12_stone_100 (by decide) ?_
        refine lv_iadd hx hb dX12_stone_101 ?_
        refine lv_topi (fun v13 ev13 => ?_)
        have h := nm_a ev13 h
        refine ptX12_147 hx hb hts hown hK hW hS cz12 dX12_stone_102 (fun H locs hW hS => ?_)
        obtain ⟨M14, eM14⟩ : ∃ y, y = msI M12 1202 0 0 v13 := ⟨_, rfl⟩
        have h := nm_a eM14 h
        rw [← eM14] at hW
        refine lv_aload_n hx hb dX12_stone_105 rfl (lv_at hl 0 rfl) ?_
        refine gtX12_147 hx hb hts hown hK hW cz12 dX12_stone_106 ?_
        refine lv_iconst (v := (1 : Int32)) hx hb dX12_stone_109 (by decide) ?_
        refine lv_isub hx hb dX12_stone_110 ?_
        exact tb_iretE h hx hb hr hS hW hlk dX12_stone_111
      · have h := sh_t c5 h
        refine lv_bipush (v := (-3 : Int32)) hx hb dX12_stone_29 (by decide) ?_
        exact tb_iretE h hx hb hr hS hW hlk dX12_stone_31
    · have h := sh_t c4 h
      refine lv_iconst (v := (-1 : Int32)) hx hb dX12_stone_18 (by decide) ?_
      exact tb_iretE h hx hb hr hS hW hlk dX12_stone_19
def fX12_canLine_b33 (M0 : Mem) (x1 : Int32) (x2 : Int32) (k6 : Int32 → Option Int32) (i7 : Int32) : Option Int32 :=
  if (mgI M0 1212 0 0) ≤ i7 then (some (1 : Int32)) else (ix i7 200 <| if (mgI M0 5900 0 i7.toNatClampNeg) = x1 then (ix i7 200 <| if (mgI M0 6000 0 i7.toNatClampNeg) = x2 then (some (0 : Int32)) else (nm (i7 + (1 : Int32)) fun v12 => k6 v12)) else (nm (i7 + (1 : Int32)) fun v10 => k6 v10))
def fX12_canLine_l33 (M0 : Mem) (x1 : Int32) (x2 : Int32) : Nat → Int32 → Option Int32
  | 0, _ => none
  | n + 1, i7 => fX12_canLine_b33 M0 x1 x2 (fX12_canLine_l33 M0 x1 x2 n) i7
def fX12_canLine (x1 : Int32) (x2 : Int32) (M0 : Mem) : Option Int32 :=
  nm (fX12_isStone x1 M0) fun b1 => if b1 = 0 then (some (0 : Int32)) else (ix x1 64 <| if (mgI M0 5000 0 x1.toNatClampNeg) = (1 : Int32) then (some (0 : Int32)) else (nm (fX12_in x2 (0 : Int32) (x1 - (1 : Int32))) fun b4 => if b4 = 0 then (some (0 : Int32)) else (fX12_canLine_l33 M0 x1 x2 FU (0 : Int32))))
set_option maxHeartbeats 4000000 in
set_option maxRecDepth 100000 in
theorem mX12_canLine {l : Launch} {D : va_G} {cy : Nat → ClassId} {A : Nat → Prop} {Z : State → Heap → Prop} {ad : Nat → Nat → Nat} (hZk : ZOK A Z) (x1 : Int32) (x2 : Int32) (M0 : Mem) (r : Int32) (h : fX12_canLine x1 x2 M0 = some r) : Met l yX12_canLine (wt yX12_canLine cX12_canLine 4 (some .boolean)) (rm 2 43) (CPre D cy A Z cnM ad M0 [.ref (ad 12 0), .int x1, .int x2]) (QZ D cy A cnM ad r M0) 0 0 A := by
  refine tb_start [.ref (ad 12 0), .int x1, .int x2] [(0, .ref (ad 12 0)), (1, .int x1), (2, .int x2)] RX12 rfl (by decide +kernel) (Nat.le_of_ble_eq_true rfl) rfl (fun p e s m args below meth c hx hb hr hml hown hts hlk hW hK hZ ls hl => ?_)
  have hS : va_S A s.heap s.heap [] := va_S.rf
  unfold fX12_canLine at h
  refine lv_aload_n hx hb dX12_canLine_0 rfl (lv_at hl 0 rfl) ?_
  refine lv_iload_n hx hb dX12_canLine_1 rfl (lv_at hl 1 rfl) ?_
  refine tb_cVZ hZk hx hb hml hown hts hK hZ hW hS [.int x1] (mX12_isStone (l := l) hZk x1 M0 (fX12_isStone x1 M0) rfl) pmX12_isStone tw1415 (Wd.recv hK hW (t := 12) (by decide) cz12 (C := RX12) (T := TX12) (N := 58) rfl) ⟨Nat.le_of_ble_eq_true rfl, Nat.le_of_ble_eq_true rfl⟩ rfl hl.1 (Nat.le_of_ble_eq_true rfl) ⟨Nat.le_refl _, Nat.le_refl _⟩ rfl dX12_canLine_2 (fun H locs hW hS hzz => ?_)
  refine lv_topi (fun b1 eb1 => ?_)
  have h := nm_a eb1 h
  have hzb1 : b1 = 0 ∨ b1 = 1 := by rw [eb1]; exact hzz
  refine lv_if_eq (tgt := 29) hx hb dX12_canLine_5 (by decide) (fun c2 => ?_) (fun c2 => ?_)
  · have h := sh_t c2 h
    refine lv_iconst (v := (0 : Int32)) hx hb dX12_canLine_29 (by decide) ?_
    exact tb_zretO h hx hb hr hS hW hlk (by decide) dX12_canLine_30
  · have h := sh_f c2 h
    refine lv_aload_n hx hb dX12_canLine_8 rfl (lv_at hl 0 rfl) ?_
    refine gtX12_7 hx hb hts hown hK hW cz12 dX12_canLine_9 ?_
    refine lv_iload_n hx hb dX12_canLine_12 rfl (lv_at hl 1 rfl) ?_
    obtain ⟨hj, h⟩ := ix_a h
    refine al50 hx hb hK hW cz50 hj dX12_canLine_13 ?_
    refine lv_iconst (v := (1 : Int32)) hx hb dX12_canLine_14 (by decide) ?_
    refine lv_icmp_eq (tgt := 29) hx hb dX12_canLine_15 (by decide) (fun c3 => ?_) (fun c3 => ?_)
    · have h := sh_t c3 h
      refine lv_iconst (v := (0 : Int32)) hx hb dX12_canLine_29 (by decide) ?_
      exact tb_zretO h hx hb hr hS hW hlk (by decide) dX12_canLine_30
    · have h := sh_f c3 h
      refine lv_iload_n hx hb dX12_canLine_18 rfl (lv_at hl 2 rfl) ?_
      refine lv_iconst (v := (0 : Int32)) hx hb dX12_canLine_19 (by decide) ?_
      refine lv_iload_n hx hb dX12_canLine_20 rfl (lv_at hl 1 rfl) ?_
      refine lv_iconst (v := (1 : Int32)) hx hb dX12_canLine_21 (by decide) ?_
      refine lv_isub hx hb dX12_canLine_22 ?_
      refine tb_cSZ hZk hx hb hml hown hts hK hZ hW hS [.int x2, .int (0 : Int32), .int (x1 - (1 : Int32))] (mX12_in (l := l) hZk x2 (0 : Int32) (x1 - (1 : Int32)) M0 (fX12_in x2 (0 : Int32) (x1 - (1 : Int32))) rfl) pmX12_in tw1401 ⟨Nat.le_of_ble_eq_true rfl, Nat.le_of_ble_eq_true rfl⟩ rfl hl.1 (Nat.le_of_ble_eq_true rfl) ⟨Nat.le_refl _, Nat.le_refl _⟩ rfl dX12_canLine_23 (fun H locs hW hS hzz => ?_)
      refine lv_topi (fun b4 eb4 => ?_)
      have h := nm_a eb4 h
      have hzb4 : b4 = 0 ∨ b4 = 1 := by rw [eb4]; exact hzz
      refine lv_if_ne (tgt := 31) hx hb dX12_canLine_26 (by decide) (fun c5 => ?_) (fun c5 => ?_)
      · have h := sh_f c5 h
        refine lv_iconst (v := (0 : Int32)) hx hb dX12_canLine_31 (by decide) ?_
        refine lv_istore_n (lv' := [(3, .int (0 : Int32)), (0, .ref (ad 12 0)), (1, .int x1), (2, .int x2)]) hx hb dX12_canLine_32 rfl hl (by decide) rfl (fun ls hl => ?_)
        have L6 : ∀ (n6 : Nat) (i7 : Int32) (H : Heap) (locs : List Loc) (ls : Array Slot), Wd D cy A cnM ad M0 H → va_S A s.heap H locs → lv_has ls 4 [(0, .ref (ad 12 0)), (1, .int x1), (2, .int x2), (3, .int i7)] → fX12_canLine_l33 M0 x1 x2 n6 i7 = some r → W p l e (rm 2 43) s m args below meth c H locs 0 0 (MQ below (QZ D cy A cnM ad r M0) args s 0 0 A) (F0 m 33 ls []) := by
          intro n6
          induction n6 with
          | zero => intro i7 H locs ls hW hS hl h; cases h
          | succ n6 ih6 =>
            intro i7 H locs ls hW hS hl h
            unfold fX12_canLine_l33 fX12_canLine_b33 at h
            refine lv_iload_n hx hb dX12_canLine_33 rfl (lv_at hl 3 rfl) ?_
            refine lv_aload_n hx hb dX12_canLine_34 rfl (lv_at hl 0 rfl) ?_
            refine gtX12_154 hx hb hts hown hK hW cz12 dX12_canLine_35 ?_
            refine lv_icmp_ge (tgt := 69) hx hb dX12_canLine_38 (by decide) (fun c8 => ?_) (fun c8 => ?_)
            · have h := sh_t c8 h
              refine lv_iconst (v := (1 : Int32)) hx hb dX12_canLine_69 (by decide) ?_
              exact tb_zretO h hx hb hr hS hW hlk (by decide) dX12_canLine_70
            · have h := sh_f c8 h
              refine lv_aload_n hx hb dX12_canLine_41 rfl (lv_at hl 0 rfl) ?_
              refine gtX12_38 hx hb hts hown hK hW cz12 dX12_canLine_42 ?_
              refine lv_iload_n hx hb dX12_canLine_45 rfl (lv_at hl 3 rfl) ?_
              obtain ⟨hj, h⟩ := ix_a h
              refine al59 hx hb hK hW cz59 hj dX12_canLine_46 ?_
              refine lv_iload_n hx hb dX12_canLine_47 rfl (lv_at hl 1 rfl) ?_
              refine lv_icmp_ne (tgt := 63) hx hb dX12_canLine_48 (by decide) (fun c9 => ?_) (fun c9 => ?_)
              · have h := sh_f c9 h
                obtain ⟨v10, ev10⟩ : ∃ y : Int32, y = i7 + (1 : Int32) := ⟨_, rfl⟩
                have h := nm_a ev10 h
                refine lv_iinc (v := v10) (lv' := [(3, .int v10), (0, .ref (ad 12 0)), (1, .int x1), (2, .int x2)]) hx hb dX12_canLine_63 hl (k := 3) rfl (by rw [ev10]; rfl) (by decide) rfl (fun ls hl => ?_)
                refine lv_goto (tgt := 33) hx hb dX12_canLine_66 (by decide) ?_
                exact ih6 v10 _ _ _ hW hS (lv_sub hl [1, 2, 3, 0] rfl) h
              · have h := sh_t c9 h
                refine lv_aload_n hx hb dX12_canLine_51 rfl (lv_at hl 0 rfl) ?_
                refine gtX12_41 hx hb hts hown hK hW cz12 dX12_canLine_52 ?_
                refine lv_iload_n hx hb dX12_canLine_55 rfl (lv_at hl 3 rfl) ?_
                obtain ⟨hj, h⟩ := ix_a h
                refine al60 hx hb hK hW cz60 hj dX12_canLine_56 ?_
                refine lv_iload_n hx hb dX12_canLine_57 rfl (lv_at hl 2 rfl) ?_
                refine lv_icmp_ne (tgt := 63) hx hb dX12_canLine_58 (by decide) (fun c11 => ?_) (fun c11 => ?_)
                · have h := sh_f c11 h
                  obtain ⟨v12, ev12⟩ : ∃ y : Int32, y = i7 + (1 : Int32) := ⟨_, rfl⟩
                  have h := nm_a ev12 h
                  refine lv_iinc (v := v12) (lv' := [(3, .int v12), (0, .ref (ad 12 0)), (1, .int x1), (2, .int x2)]) hx hb dX12_canLine_63 hl (k := 3) rfl (by rw [ev12]; rfl) (by decide) rfl (fun ls hl => ?_)
                  refine lv_goto (tgt := 33) hx hb dX12_canLine_66 (by decide) ?_
                  exact ih6 v12 _ _ _ hW hS (lv_sub hl [1, 2, 3, 0] rfl) h
                · have h := sh_t c11 h
                  refine lv_iconst (v := (0 : Int32)) hx hb dX12_canLine_61 (by decide) ?_
                  exact tb_zretO h hx hb hr hS hW hlk (by decide) dX12_canLine_62
        exact L6 FU (0 : Int32) _ _ _ hW hS (lv_sub hl [1, 2, 3, 0] rfl) h
      · have h := sh_t c5 h
        refine lv_iconst (v := (0 : Int32)) hx hb dX12_canLine_29 (by decide) ?_
        exact tb_zretO h hx hb hr hS hW hlk (by decide) dX12_canLine_30
def fX12_addLine (x1 : Int32) (x2 : Int32) (x3 : Int32) (x4 : Int32) (M0 : Mem) : Option (Int32 × Mem) :=
  ix (mgI M0 1212 0 0) 200 <| nm (msI M0 5900 0 ((mgI M0 1212 0 0).toNatClampNeg) x1) fun M1 => ix (mgI M1 1212 0 0) 200 <| nm (msI M1 6000 0 ((mgI M1 1212 0 0).toNatClampNeg) x2) fun M2 => ix (mgI M2 1212 0 0) 200 <| nm (msI M2 6100 0 ((mgI M2 1212 0 0).toNatClampNeg) x3) fun M3 => ix (mgI M3 1212 0 0) 200 <| nm (msI M3 6200 0 ((mgI M3 1212 0 0).toNatClampNeg) x4) fun M4 => nm ((mgI M4 1212 0 0) + (1 : Int32)) fun v5 => nm (msI M4 1212 0 0 v5) fun M6 => some ((mgI M6 1212 0 0) - (1 : Int32), M6)
set_option maxHeartbeats 4000000 in
set_option maxRecDepth 100000 in
theorem mX12_addLine {l : Launch} {D : va_G} {cy : Nat → ClassId} {A : Nat → Prop} {Z : State → Heap → Prop} {ad : Nat → Nat → Nat} (hZk : ZOK A Z) (x1 : Int32) (x2 : Int32) (x3 : Int32) (x4 : Int32) (M0 : Mem) (r : Int32) (M' : Mem) (h : fX12_addLine x1 x2 x3 x4 M0 = some (r, M')) : Met l yX12_addLine (wt yX12_addLine cX12_addLine 5 (some .int)) (rm 0 0) (CPre D cy A Z cnM ad M0 [.ref (ad 12 0), .int x1, .int x2, .int x3, .int x4]) (QI D cy A cnM ad r M') 0 0 A := by
  refine tb_start [.ref (ad 12 0), .int x1, .int x2, .int x3, .int x4] [(0, .ref (ad 12 0)), (1, .int x1), (2, .int x2), (3, .int x3), (4, .int x4)] RX12 rfl (by decide +kernel) (Nat.le_of_ble_eq_true rfl) rfl (fun p e s m args below meth c hx hb hr hml hown hts hlk hW hK hZ ls hl => ?_)
  have hS : va_S A s.heap s.heap [] := va_S.rf
  unfold fX12_addLine at h
  refine lv_aload_n hx hb dX12_addLine_0 rfl (lv_at hl 0 rfl) ?_
  refine gtX12_38 hx hb hts hown hK hW cz12 dX12_addLine_1 ?_
  refine lv_aload_n hx hb dX12_addLine_4 rfl (lv_at hl 0 rfl) ?_
  refine gtX12_154 hx hb hts hown hK hW cz12 dX12_addLine_5 ?_
  refine lv_iload_n hx hb dX12_addLine_8 rfl (lv_at hl 1 rfl) ?_
  obtain ⟨hj, h⟩ := ix_a h
  refine as59 hx hb hK hW hS cz59 hj dX12_addLine_9 (fun H locs hW hS => ?_)
  obtain ⟨M1, eM1⟩ : ∃ y, y = msI M0 5900 0 ((mgI M0 1212 0 0).toNatClampNeg) x1 := ⟨_, rfl⟩
  have h := nm_a eM1 h
  rw [← eM1] at hW
  refine lv_aload_n hx hb dX12_addLine_10 rfl (lv_at hl 0 rfl) ?_
  refine gtX12_41 hx hb hts hown hK hW cz12 dX12_addLine_11 ?_
  refine lv_aload_n hx hb dX12_addLine_14 rfl (lv_at hl 0 rfl) ?_
  refine gtX12_154 hx hb hts hown hK hW cz12 dX12_addLine_15 ?_
  refine lv_iload_n hx hb dX12_addLine_18 rfl (lv_at hl 2 rfl) ?_
  obtain ⟨hj, h⟩ := ix_a h
  refine as60 hx hb hK hW hS cz60 hj dX12_addLine_19 (fun H locs hW hS => ?_)
  obtain ⟨M2, eM2⟩ : ∃ y, y = msI M1 6000 0 ((mgI M1 1212 0 0).toNatClampNeg) x2 := ⟨_, rfl⟩
  have h := nm_a eM2 h
  rw [← eM2] at hW
  refine lv_aload_n hx hb dX12_addLine_20 rfl (lv_at hl 0 rfl) ?_
  refine gtX12_44 hx hb hts hown hK hW cz12 dX12_addLine_21 ?_
  refine lv_aload_n hx hb dX12_addLine_24 rfl (lv_at hl 0 rfl) ?_
  refine gtX12_154 hx hb hts hown hK hW cz12 dX12_addLine_25 ?_
  refine lv_iload_n hx hb dX12_addLine_28 rfl (lv_at hl 3 rfl) ?_
  obtain ⟨hj, h⟩ := ix_a h
  refine as61 hx hb hK hW hS cz61 hj dX12_addLine_29 (fun H locs hW hS => ?_)
  obtain ⟨M3, eM3⟩ : ∃ y, y = msI M2 6100 0 ((mgI M2 1212 0 0).toNatClampNeg) x3 := ⟨_, rfl⟩
  have h := nm_a eM3 h
  rw [← eM3] at hW
  refine lv_aload_n hx hb dX12_addLine_30 rfl (lv_at hl 0 rfl) ?_
  refine gtX12_47 hx hb hts hown hK hW cz12 dX12_addLine_31 ?_
  refine lv_aload_n hx hb dX12_addLine_34 rfl (lv_at hl 0 rfl) ?_
  refine gtX12_154 hx hb hts hown hK hW cz12 dX12_addLine_35 ?_
  refine lv_iload hx hb dX12_addLine_38 (lv_at hl 4 rfl) ?_
  obtain ⟨hj, h⟩ := ix_a h
  refine as62 hx hb hK hW hS cz62 hj dX12_addLine_40 (fun H locs hW hS => ?_)
  obtain ⟨M4, eM4⟩ : ∃ y, y = msI M3 6200 0 ((mgI M3 1212 0 0).toNatClampNeg) x4 := ⟨_, rfl⟩
  have h := nm_a eM4 h
  rw [← eM4] at hW
  refine lv_aload_n hx hb dX12_addLine_41 rfl (lv_at hl 0 rfl) ?_
  refine lv_dup hx hb dX12_addLine_42 rfl ?_
  refine gtX12_154 hx hb hts hown hK hW cz12 dX12_addLine_43 ?_
  refine lv_iconst (v := (1 : Int32)) hx hb dX12_addLine_46 (by decide) ?_
  refine lv_iadd hx hb dX12_addLine_47 ?_
  refine lv_topi (fun v5 ev5 => ?_)
  have h := nm_a ev5 h
  refine ptX12_154 hx hb hts hown hK hW hS cz12 dX12_addLine_48 (fun H locs hW hS => ?_)
  obtain ⟨M6, eM6⟩ : ∃ y, y = msI M4 1212 0 0 v5 := ⟨_, rfl⟩
  have h := nm_a eM6 h
  rw [← eM6] at hW
  refine lv_aload_n hx hb dX12_addLine_51 rfl (lv_at hl 0 rfl) ?_
  refine gtX12_154 hx hb hts hown hK hW cz12 dX12_addLine_52 ?_
  refine lv_iconst (v := (1 : Int32)) hx hb dX12_addLine_55 (by decide) ?_
  refine lv_isub hx hb dX12_addLine_56 ?_
  exact tb_iretE h hx hb hr hS hW hlk dX12_addLine_57
def fX12_line (x1 : Int32) (x2 : Int32) (x3 : Int32) (M0 : Mem) : Option (Int32 × Mem) :=
  bd (fX12_canLine x1 x2 M0) fun b1 => if b1 = 0 then (some ((-1 : Int32), M0)) else (if x3 < 0 then (some ((-1 : Int32), M0)) else (nm (fX12_in (x3 - x3 / (100 : Int32) * (100 : Int32)) (1 : Int32) (99 : Int32)) fun b4 => if b4 = 0 then (some ((-1 : Int32), M0)) else (if (x3 / (100 : Int32)) ≤ (2 : Int32) then (if (mgI M0 1212 0 0) = (200 : Int32) then (some ((-3 : Int32), M0)) else (bE (fX12_addLine x1 x2 (x3 - x3 / (100 : Int32) * (100 : Int32)) (x3 / (100 : Int32)) M0) fun b8 M9 => some (b8, M9))) else (some ((-1 : Int32), M0)))))
set_option maxHeartbeats 4000000 in
set_option maxRecDepth 100000 in
theorem mX12_line {l : Launch} {D : va_G} {cy : Nat → ClassId} {A : Nat → Prop} {Z : State → Heap → Prop} {ad : Nat → Nat → Nat} (hZk : ZOK A Z) (x1 : Int32) (x2 : Int32) (x3 : Int32) (M0 : Mem) (r : Int32) (M' : Mem) (h : fX12_line x1 x2 x3 M0 = some (r, M')) : Met l yX12_line (wt yX12_line cX12_line 4 (some .int)) (rm 3 66) (CPre D cy A Z cnM ad M0 [.ref (ad 12 0), .int x1, .int x2, .int x3]) (QI D cy A cnM ad r M') 0 0 A := by
  refine tb_start [.ref (ad 12 0), .int x1, .int x2, .int x3] [(0, .ref (ad 12 0)), (1, .int x1), (2, .int x2), (3, .int x3)] RX12 rfl (by decide +kernel) (Nat.le_of_ble_eq_true rfl) rfl (fun p e s m args below meth c hx hb hr hml hown hts hlk hW hK hZ ls hl => ?_)
  have hS : va_S A s.heap s.heap [] := va_S.rf
  unfold fX12_line at h
  refine lv_aload_n hx hb dX12_line_0 rfl (lv_at hl 0 rfl) ?_
  refine lv_iload_n hx hb dX12_line_1 rfl (lv_at hl 1 rfl) ?_
  refine lv_iload_n hx hb dX12_line_2 rfl (lv_at hl 2 rfl) ?_
  obtain ⟨b1, hcb1, h⟩ := bd_a h
  refine tb_cVZ hZk hx hb hml hown hts hK hZ hW hS [.int x1, .int x2] (mX12_canLine (l := l) hZk x1 x2 M0 b1 hcb1) pmX12_canLine tw1411 (Wd.recv hK hW (t := 12) (by decide) cz12 (C := RX12) (T := TX12) (N := 58) rfl) ⟨Nat.le_of_ble_eq_true rfl, Nat.le_of_ble_eq_true rfl⟩ rfl hl.1 (Nat.le_of_ble_eq_true rfl) ⟨Nat.le_refl _, Nat.le_refl _⟩ rfl dX12_line_3 (fun H locs hW hS hzz => ?_)
  have hzb1 := hzz
  refine lv_if_eq (tgt := 34) hx hb dX12_line_6 (by decide) (fun c2 => ?_) (fun c2 => ?_)
  · have h := sh_t c2 h
    refine lv_iconst (v := (-1 : Int32)) hx hb dX12_line_34 (by decide) ?_
    exact tb_iretE h hx hb hr hS hW hlk dX12_line_35
  · have h := sh_f c2 h
    refine lv_iload_n hx hb dX12_line_9 rfl (lv_at hl 3 rfl) ?_
    refine lv_if_lt (tgt := 34) hx hb dX12_line_10 (by decide) (fun c3 => ?_) (fun c3 => ?_)
    · have h := sh_t c3 h
      refine lv_iconst (v := (-1 : Int32)) hx hb dX12_line_34 (by decide) ?_
      exact tb_iretE h hx hb hr hS hW hlk dX12_line_35
    · have h := sh_f c3 h
      refine lv_iload_n hx hb dX12_line_13 rfl (lv_at hl 3 rfl) ?_
      refine lv_bipush (v := (100 : Int32)) hx hb dX12_line_14 (by decide) ?_
      refine lv_irem hx hb dX12_line_16 (by decide) ?_
      refine lv_iconst (v := (1 : Int32)) hx hb dX12_line_17 (by decide) ?_
      refine lv_bipush (v := (99 : Int32)) hx hb dX12_line_18 (by decide) ?_
      refine tb_cSZ hZk hx hb hml hown hts hK hZ hW hS [.int (x3 - x3 / (100 : Int32) * (100 : Int32)), .int (1 : Int32), .int (99 : Int32)] (mX12_in (l := l) hZk (x3 - x3 / (100 : Int32) * (100 : Int32)) (1 : Int32) (99 : Int32) M0 (fX12_in (x3 - x3 / (100 : Int32) * (100 : Int32)) (1 : Int32) (99 : Int32)) rfl) pmX12_in tw1401 ⟨Nat.le_of_ble_eq_true rfl, Nat.le_of_ble_eq_true rfl⟩ rfl hl.1 (Nat.le_of_ble_eq_true rfl) ⟨Nat.le_refl _, Nat.le_refl _⟩ rfl dX12_line_20 (fun H locs hW hS hzz => ?_)
      refine lv_topi (fun b4 eb4 => ?_)
      have h := nm_a eb4 h
      have hzb4 : b4 = 0 ∨ b4 = 1 := by rw [eb4]; exact hzz
      refine lv_if_eq (tgt := 34) hx hb dX12_line_23 (by decide) (fun c5 => ?_) (fun c5 => ?_)
      · have h := sh_t c5 h
        refine lv_iconst (v := (-1 : Int32)) hx hb dX12_line_34 (by decide) ?_
        exact tb_iretE h hx hb hr hS hW hlk dX12_line_35
      · have h := sh_f c5 h
        refine lv_iload_n hx hb dX12_line_26 rfl (lv_at hl 3 rfl) ?_
        refine lv_bipush (v := (100 : Int32)) hx hb dX12_line_27 (by decide) ?_
        refine lv_idiv hx hb dX12_line_29 (by decide) ?_
        refine lv_iconst (v := (2 : Int32)) hx hb dX12_line_30 (by decide) ?_
        refine lv_icmp_le (tgt := 36) hx hb dX12_line_31 (by decide) (fun c6 => ?_) (fun c6 => ?_)
        · have h := sh_t c6 h
          refine lv_aload_n hx hb dX12_line_36 rfl (lv_at hl 0 rfl) ?_
          refine gtX12_154 hx hb hts hown hK hW cz12 dX12_line_37 ?_
          refine lv_sipush (v := (200 : Int32)) hx hb dX12_line_40 (by decide) ?_
          refine lv_icmp_ne (tgt := 51) hx hb dX12_line_43 (by decide) (fun c7 => ?_) (fun c7 => ?_)
          · have h := sh_f c7 h
            refine lv_aload_n hx hb dX12_line_51 rfl (lv_at hl 0 rfl) ?_
            refine lv_iload_n hx hb dX12_line_52 rfl (lv_at hl 1 rfl) ?_
            refine lv_iload_n hx hb dX12_line_53 rfl (lv_at hl 2 rfl) ?_
            refine lv_iload_n hx hb dX12_line_54 rfl (lv_at hl 3 rfl) ?_
            refine lv_bipush (v := (100 : Int32)) hx hb dX12_line_55 (by decide) ?_
            refine lv_irem hx hb dX12_line_57 (by decide) ?_
            refine lv_iload_n hx hb dX12_line_58 rfl (lv_at hl 3 rfl) ?_
            refine lv_bipush (v := (100 : Int32)) hx hb dX12_line_59 (by decide) ?_
            refine lv_idiv hx hb dX12_line_61 (by decide) ?_
            obtain ⟨b8, M9, hcb8, h⟩ := bE_a h
            refine tb_cVI hZk hx hb hml hown hts hK hZ hW hS [.int x1, .int x2, .int (x3 - x3 / (100 : Int32) * (100 : Int32)), .int (x3 / (100 : Int32))] (mX12_addLine (l := l) hZk x1 x2 (x3 - x3 / (100 : Int32) * (100 : Int32)) (x3 / (100 : Int32)) M0 b8 M9 hcb8) pmX12_addLine tw1419 (Wd.recv hK hW (t := 12) (by decide) cz12 (C := RX12) (T := TX12) (N := 58) rfl) ⟨Nat.le_of_ble_eq_true rfl, Nat.le_of_ble_eq_true rfl⟩ rfl hl.1 (Nat.le_of_ble_eq_true rfl) ⟨Nat.le_refl _, Nat.le_refl _⟩ rfl dX12_line_62 (fun H locs hW hS => ?_)
            exact tb_iretE h hx hb hr hS hW hlk dX12_line_65
          · have h := sh_t c7 h
            refine lv_bipush (v := (-3 : Int32)) hx hb dX12_line_46 (by decide) ?_
            refine lv_goto (tgt := 65) hx hb dX12_line_48 (by decide) ?_
            exact tb_iretE h hx hb hr hS hW hlk dX12_line_65
        · have h := sh_f c6 h
          refine lv_iconst (v := (-1 : Int32)) hx hb dX12_line_34 (by decide) ?_
          exact tb_iretE h hx hb hr hS hW hlk dX12_line_35
def fX12_isShelf (x0 : Int32) : Int32 :=
  nm (fX12_in x0 (0 : Int32) (5 : Int32)) fun b1 => b1
set_option maxHeartbeats 4000000 in
set_option maxRecDepth 100000 in
theorem mX12_isShelf {l : Launch} {D : va_G} {cy : Nat → ClassId} {A : Nat → Prop} {Z : State → Heap → Prop} {ad : Nat → Nat → Nat} (hZk : ZOK A Z) (x0 : Int32) (M0 : Mem) (r : Int32) (h : fX12_isShelf x0 = r) : Met l yX12_isShelf (wt yX12_isShelf cX12_isShelf 1 (some .boolean)) (rm 1 22) (CPre D cy A Z cnM ad M0 [.int x0]) (QZ D cy A cnM ad r M0) 0 0 A := by
  refine tb_start [.int x0] [(0, .int x0)] RX12 rfl (by decide +kernel) (Nat.le_of_ble_eq_true rfl) rfl (fun p e s m args below meth c hx hb hr hml hown hts hlk hW hK hZ ls hl => ?_)
  have hS : va_S A s.heap s.heap [] := va_S.rf
  unfold fX12_isShelf at h
  refine lv_iload_n hx hb dX12_isShelf_0 rfl (lv_at hl 0 rfl) ?_
  refine lv_iconst (v := (0 : Int32)) hx hb dX12_isShelf_1 (by decide) ?_
  refine lv_iconst (v := (5 : Int32)) hx hb dX12_isShelf_2 (by decide) ?_
  refine tb_cSZ hZk hx hb hml hown hts hK hZ hW hS [.int x0, .int (0 : Int32), .int (5 : Int32)] (mX12_in (l := l) hZk x0 (0 : Int32) (5 : Int32) M0 (fX12_in x0 (0 : Int32) (5 : Int32)) rfl) pmX12_in tw1401 ⟨Nat.le_of_ble_eq_true rfl, Nat.le_of_ble_eq_true rfl⟩ rfl hl.1 (Nat.le_of_ble_eq_true rfl) ⟨Nat.le_refl _, Nat.le_refl _⟩ rfl dX12_isShelf_3 (fun H locs hW hS hzz => ?_)
  refine lv_topi (fun b1 eb1 => ?_)
  have h := nm_a eb1 h
  have hzb1 : b1 = 0 ∨ b1 = 1 := by rw [eb1]; exact hzz
  exact tb_zretP h hx hb hr hS hW hlk hzb1 dX12_isShelf_6
def fX12_citings_b77 (x4 : Int32) (x3 : Int32) (x2 : Int32) (x1 : Int32) (k10 : Int32 → Mem → Option (Int32 × Mem)) (i11 : Int32) (M12 : Mem) : Option (Int32 × Mem) :=
  if x4 ≤ i11 then (some (x4, M12)) else (nm (x3.toInt64 + (((3 : Int32) * i11).toInt64)) fun v14 => if (lg_cmp v14 (0 : Int64)) < 0 then (some (i11, M12)) else (ix x2 6 <| if 0 ≤ (lg_cmp v14 ((mgI M12 9000 0 x2.toNatClampNeg).toInt64)) then (some (i11, M12)) else (if (mgI M12 1212 0 0) = (200 : Int32) then (some (i11, M12)) else (nm (((60 : Int32) * x2) + v14.toInt32) fun v18 => ix v18 360 <| bd (fX12_canLine x1 ((mgL M12 9100 0 v18.toNatClampNeg).toInt32) M12) fun b19 => if b19 = 0 then (some (i11, M12)) else (ix x2 6 <| if 0 ≤ (lg_cmp (v14 + (2 : Int64)) ((mgI M12 9000 0 x2.toNatClampNeg).toInt64)) then (ix v18 360 <| bE (fX12_addLine x1 ((mgL M12 9100 0 v18.toNatClampNeg).toInt32) (1 : Int32) (2 : Int32) M12) fun b22 M23 => some (i11 + (1 : Int32), M23)) else (ix (v18 + (1 : Int32)) 360 <| nm (fX12_in ((mgL M12 9100 0 (v18 + (1 : Int32)).toNatClampNeg).toInt32) (1 : Int32) (99 : Int32)) fun b24 => if b24 = 0 then (ix v18 360 <| bE (fX12_addLine x1 ((mgL M12 9100 0 v18.toNatClampNeg).toInt32) (1 : Int32) (2 : Int32) M12) fun b26 M27 => some (i11 + (1 : Int32), M27)) else (ix (v18 + (2 : Int32)) 360 <| nm (fX12_in ((mgL M12 9100 0 (v18 + (2 : Int32)).toNatClampNeg).toInt32) (0 : Int32) (2 : Int32)) fun b28 => if b28 = 0 then (ix v18 360 <| bE (fX12_addLine x1 ((mgL M12 9100 0 v18.toNatClampNeg).toInt32) (1 : Int32) (2 : Int32) M12) fun b30 M31 => some (i11 + (1 : Int32), M31)) else (ix v18 360 <| ix (v18 + (1 : Int32)) 360 <| ix (v18 + (2 : Int32)) 360 <| bE (fX12_addLine x1 ((mgL M12 9100 0 v18.toNatClampNeg).toInt32) ((mgL M12 9100 0 (v18 + (1 : Int32)).toNatClampNeg).toInt32) ((mgL M12 9100 0 (v18 + (2 : Int32)).toNatClampNeg).toInt32) M12) fun b32 M33 => nm (i11 + (1 : Int32)) fun v34 => k10 v34 M33))))))))
def fX12_citings_l77 (x4 : Int32) (x3 : Int32) (x2 : Int32) (x1 : Int32) : Nat → Int32 → Mem → Option (Int32 × Mem)
  | 0, _, _ => none
  | n + 1, i11, M12 => fX12_citings_b77 x4 x3 x2 x1 (fX12_citings_l77 x4 x3 x2 x1 n) i11 M12
def fX12_citings_b77_37 (x4 : Int32) (x3 : Int32) (x2 : Int32) (x1 : Int32) (k37 : Int32 → Mem → Option (Int32 × Mem)) (i38 : Int32) (M39 : Mem) : Option (Int32 × Mem) :=
  if x4 ≤ i38 then (some (x4, M39)) else (nm (x3.toInt64 + (((3 : Int32) * i38).toInt64)) fun v41 => if (lg_cmp v41 (0 : Int64)) < 0 then (some (i38, M39)) else (ix x2 6 <| if 0 ≤ (lg_cmp v41 ((mgI M39 9000 0 x2.toNatClampNeg).toInt64)) then (some (i38, M39)) else (if (mgI M39 1212 0 0) = (200 : Int32) then (some (i38, M39)) else (nm (((60 : Int32) * x2) + v41.toInt32) fun v45 => ix v45 360 <| bd (fX12_canLine x1 ((mgL M39 9100 0 v45.toNatClampNeg).toInt32) M39) fun b46 => if b46 = 0 then (some (i38, M39)) else (ix x2 6 <| if 0 ≤ (lg_cmp (v41 + (2 : Int64)) ((mgI M39 9000 0 x2.toNatClampNeg).toInt64)) then (ix v45 360 <| bE (fX12_addLine x1 ((mgL M39 9100 0 v45.toNatClampNeg).toInt32) (1 : Int32) (2 : Int32) M39) fun b49 M50 => some (i38 + (1 : Int32), M50)) else (ix (v45 + (1 : Int32)) 360 <| nm (fX12_in ((mgL M39 9100 0 (v45 + (1 : Int32)).toNatClampNeg).toInt32) (1 : Int32) (99 : Int32)) fun b51 => if b51 = 0 then (ix v45 360 <| bE (fX12_addLine x1 ((mgL M39 9100 0 v45.toNatClampNeg).toInt32) (1 : Int32) (2 : Int32) M39) fun b53 M54 => some (i38 + (1 : Int32), M54)) else (ix (v45 + (2 : Int32)) 360 <| nm (fX12_in ((mgL M39 9100 0 (v45 + (2 : Int32)).toNatClampNeg).toInt32) (0 : Int32) (2 : Int32)) fun b55 => if b55 = 0 then (ix v45 360 <| bE (fX12_addLine x1 ((mgL M39 9100 0 v45.toNatClampNeg).toInt32) (1 : Int32) (2 : Int32) M39) fun b57 M58 => some (i38 + (1 : Int32), M58)) else (ix v45 360 <| ix (v45 + (1 : Int32)) 360 <| ix (v45 + (2 : Int32)) 360 <| bE (fX12_addLine x1 ((mgL M39 9100 0 v45.toNatClampNeg).toInt32) ((mgL M39 9100 0 (v45 + (1 : Int32)).toNatClampNeg).toInt32) ((mgL M39 9100 0 (v45 + (2 : Int32)).toNatClampNeg).toInt32) M39) fun b59 M60 => nm (i38 + (1 : Int32)) fun v61 => k37 v61 M60))))))))
def fX12_citings_l77_37 (x4 : Int32) (x3 : Int32) (x2 : Int32) (x1 : Int32) : Nat → Int32 → Mem → Option (Int32 × Mem)
  | 0, _, _ => none
  | n + 1, i38, M39 => fX12_citings_b77_37 x4 x3 x2 x1 (fX12_citings_l77_37 x4 x3 x2 x1 n) i38 M39
def fX12_citings (x1 : Int32) (x2 : Int32) (x3 : Int32) (x4 : Int32) (M0 : Mem) : Option (Int32 × Mem) :=
  nm (fX12_isStone x1 M0) fun b1 => if b1 = 0 then (some ((-1 : Int32), M0)) else (ix x1 64 <| if (mgI M0 5000 0 x1.toNatClampNeg) = (1 : Int32) then (some ((-1 : Int32), M0)) else (nm (fX12_isShelf x2) fun b4 => if b4 = 0 then (some ((-1 : Int32), M0)) else (nm (fX12_in x4 (1 : Int32) (20 : Int32)) fun b6 => if b6 = 0 then (some ((-1 : Int32), M0)) else (ix x2 6 <| if (mgI M0 8900 0 x2.toNatClampNeg) = (-1 : Int32) then (ix x2 6 <| if (mgI M0 8900 0 x2.toNatClampNeg) = (-1 : Int32) then (some ((0 : Int32), M0)) else (fX12_citings_l77 x4 x3 x2 x1 FU (0 : Int32) M0)) else (ix x2 6 <| if (mgI M0 8900 0 x2.toNatClampNeg) = (-2 : Int32) then (ix x2 6 <| if (mgI M0 8900 0 x2.toNatClampNeg) = (-1 : Int32) then (some ((0 : Int32), M0)) else (fX12_citings_l77_37 x4 x3 x2 x1 FU (0 : Int32) M0)) else (some ((-12 : Int32), M0)))))))
set_option maxHeartbeats 4000000 in
set_option maxRecDepth 100000 in
theorem mX12_citings {l : Launch} {D : va_G} {cy : Nat → ClassId} {A : Nat → Prop} {Z : State → Heap → Prop} {ad : Nat → Nat → Nat} (hZk : ZOK A Z) (x1 : Int32) (x2 : Int32) (x3 : Int32) (x4 : Int32) (M0 : Mem) (r : Int32) (M' : Mem) (h : fX12_citings x1 x2 x3 x4 M0 = some (r, M')) : Met l yX12_citings (wt yX12_citings cX12_citings 10 (some .int)) (rm 3 66) (CPre D cy A Z cnM ad M0 [.ref (ad 12 0), .int x1, .int x2, .int x3, .int x4]) (QI D cy A cnM ad r M') 0 0 A := by
  refine tb_start [.ref (ad 12 0), .int x1, .int x2, .int x3, .int x4] [(0, .ref (ad 12 0)), (1, .int x1), (2, .int x2), (3, .int x3), (4, .int x4)] RX12 rfl (by decide +kernel) (Nat.le_of_ble_eq_true rfl) rfl (fun p e s m args below meth c hx hb hr hml hown hts hlk hW hK hZ ls hl => ?_)
  have hS : va_S A s.heap s.heap [] := va_S.rf
  unfold fX12_citings at h
  refine lv_aload_n hx hb dX12_citings_0 rfl (lv_at hl 0 rfl) ?_
  refine lv_iload_n hx hb dX12_citings_1 rfl (lv_at hl 1 rfl) ?_
  refine tb_cVZ hZk hx hb hml hown hts hK hZ hW hS [.int x1] (mX12_isStone (l := l) hZk x1 M0 (fX12_isStone x1 M0) rfl) pmX12_isStone tw1415 (Wd.recv hK hW (t := 12) (by decide) cz12 (C := RX12) (T := TX12) (N := 58) rfl) ⟨Nat.le_of_ble_eq_true rfl, Nat.le_of_ble_eq_true rfl⟩ rfl hl.1 (Nat.le_of_ble_eq_true rfl) ⟨Nat.le_refl _, Nat.le_refl _⟩ rfl dX12_citings_2 (fun H locs hW hS hzz => ?_)
  refine lv_topi (fun b1 eb1 => ?_)
  have h := nm_a eb1 h
  have hzb1 : b1 = 0 ∨ b1 = 1 := by rw [eb1]; exact hzz
  refine lv_if_eq (tgt := 36) hx hb dX12_citings_5 (by decide) (fun c2 => ?_) (fun c2 => ?_)
  · have h := sh_t c2 h
    refine lv_iconst (v := (-1 : Int32)) hx hb dX12_citings_36 (by decide) ?_
    exact tb_iretE h hx hb hr hS hW hlk dX12_citings_37
  · have h := sh_f c2 h
    refine lv_aload_n hx hb dX12_citings_8 rfl (lv_at hl 0 rfl) ?_
    refine gtX12_7 hx hb hts hown hK hW cz12 dX12_citings_9 ?_
    refine lv_iload_n hx hb dX12_citings_12 rfl (lv_at hl 1 rfl) ?_
    obtain ⟨hj, h⟩ := ix_a h
    refine al50 hx hb hK hW cz50 hj dX12_citings_13 ?_
    refine lv_iconst (v := (1 : Int32)) hx hb dX12_citings_14 (by decide) ?_
    refine lv_icmp_eq (tgt := 36) hx hb dX12_citings_15 (by decide) (fun c3 => ?_) (fun c3 => ?_)
    · have h := sh_t c3 h
      refine lv_iconst (v := (-1 : Int32)) hx hb dX12_citings_36 (by decide) ?_
      exact tb_iretE h hx hb hr hS hW hlk dX12_citings_37
    · have h := sh_f c3 h
      refine lv_iload_n hx hb dX12_citings_18 rfl (lv_at hl 2 rfl) ?_
      refine tb_cSZ hZk hx hb hml hown hts hK hZ hW hS [.int x2] (mX12_isShelf (l := l) hZk x2 M0 (fX12_isShelf x2) rfl) pmX12_isShelf tw1427 ⟨Nat.le_of_ble_eq_true rfl, Nat.le_of_ble_eq_true rfl⟩ rfl hl.1 (Nat.le_of_ble_eq_true rfl) ⟨Nat.le_refl _, Nat.le_refl _⟩ rfl dX12_citings_19 (fun H locs hW hS hzz => ?_)
      refine lv_topi (fun b4 eb4 => ?_)
      have h := nm_a eb4 h
      have hzb4 : b4 = 0 ∨ b4 = 1 := by rw [eb4]; exact hzz
      refine lv_if_eq (tgt := 36) hx hb dX12_citings_22 (by decide) (fun c5 => ?_) (fun c5 => ?_)
      · have h := sh_t c5 h
        refine lv_iconst (v := (-1 : Int32)) hx hb dX12_citings_36 (by decide) ?_
        exact tb_iretE h hx hb hr hS hW hlk dX12_citings_37
      · have h := sh_f c5 h
        refine lv_iload hx hb dX12_citings_25 (lv_at hl 4 rfl) ?_
        refine lv_iconst (v := (1 : Int32)) hx hb dX12_citings_27 (by decide) ?_
        refine lv_bipush (v := (20 : Int32)) hx hb dX12_citings_28 (by decide) ?_
        refine tb_cSZ hZk hx hb hml hown hts hK hZ hW hS [.int x4, .int (1 : Int32), .int (20 : Int32)] (mX12_in (l := l) hZk x4 (1 : Int32) (20 : Int32) M0 (fX12_in x4 (1 : Int32) (20 : Int32)) rfl) pmX12_in tw1401 ⟨Nat.le_of_ble_eq_true rfl, Nat.le_of_ble_eq_true rfl⟩ rfl hl.1 (Nat.le_of_ble_eq_true rfl) ⟨Nat.le_refl _, Nat.le_refl _⟩ rfl dX12_citings_30 (fun H locs hW hS hzz => ?_)
        refine lv_topi (fun b6 eb6 => ?_)
        have h := nm_a eb6 h
        have hzb6 : b6 = 0 ∨ b6 = 1 := by rw [eb6]; exact hzz
        refine lv_if_ne (tgt := 38) hx hb dX12_citings_33 (by decide) (fun c7 => ?_) (fun c7 => ?_)
        · have h := sh_f c7 h
          refine lv_aload_n hx hb dX12_citings_38 rfl (lv_at hl 0 rfl) ?_
          refine gtX12_131 hx hb hts hown hK hW cz12 dX12_citings_39 ?_
          refine lv_iload_n hx hb dX12_citings_42 rfl (lv_at hl 2 rfl) ?_
          obtain ⟨hj, h⟩ := ix_a h
          refine al89 hx hb hK hW cz89 hj dX12_citings_43 ?_
          refine lv_iconst (v := (-1 : Int32)) hx hb dX12_citings_44 (by decide) ?_
          refine lv_icmp_eq (tgt := 62) hx hb dX12_citings_45 (by decide) (fun c8 => ?_) (fun c8 => ?_)
          · have h := sh_t c8 h
            refine lv_aload_n hx hb dX12_citings_62 rfl (lv_at hl 0 rfl) ?_
            refine gtX12_131 hx hb hts hown hK hW cz12 dX12_citings_63 ?_
            refine lv_iload_n hx hb dX12_citings_66 rfl (lv_at hl 2 rfl) ?_
            obtain ⟨hj, h⟩ := ix_a h
            refine al89 hx hb hK hW cz89 hj dX12_citings_67 ?_
            refine lv_iconst (v := (-1 : Int32)) hx hb dX12_citings_68 (by decide) ?_
            refine lv_icmp_ne (tgt := 74) hx hb dX12_citings_69 (by decide) (fun c9 => ?_) (fun c9 => ?_)
            · have h := sh_f c9 h
              refine lv_iconst (v := (0 : Int32)) hx hb dX12_citings_74 (by decide) ?_
              refine lv_istore (lv' := [(5, .int (0 : Int32)), (0, .ref (ad 12 0)), (1, .int x1), (2, .int x2), (3, .int x3), (4, .int x4)]) hx hb dX12_citings_75 hl (by decide) rfl (fun ls hl => ?_)
              have L10 : ∀ (n10 : Nat) (i11 : Int32) (M12 : Mem) (H : Heap) (locs : List Loc) (ls : Array Slot), Wd D cy A cnM ad M12 H → va_S A s.heap H locs → lv_has ls 10 [(0, .ref (ad 12 0)), (1, .int x1), (2, .int x2), (3, .int x3), (4, .int x4), (5, .int i11)] → fX12_citings_l77 x4 x3 x2 x1 n10 i11 M12 = some (r, M') → W p l e (rm 3 66) s m args below meth c H locs 0 0 (MQ below (QI D cy A cnM ad r M') args s 0 0 A) (F0 m 77 ls []) := by
                intro n10
                induction n10 with
                | zero => intro i11 M12 H locs ls hW hS hl h; cases h
                | succ n10 ih10 =>
                  intro i11 M12 H locs ls hW hS hl h
                  unfold fX12_citings_l77 fX12_citings_b77 at h
                  refine lv_iload hx hb dX12_citings_77 (lv_at hl 5 rfl) ?_
                  refine lv_iload hx hb dX12_citings_79 (lv_at hl 4 rfl) ?_
                  refine lv_icmp_ge (tgt := 285) hx hb dX12_citings_81 (by decide) (fun c13 => ?_) (fun c13 => ?_)
                  · have h := sh_t c13 h
                    refine lv_iload hx hb dX12_citings_285 (lv_at hl 4 rfl) ?_
                    exact tb_iretE h hx hb hr hS hW hlk dX12_citings_287
                  · have h := sh_f c13 h
                    refine lv_iload_n hx hb dX12_citings_84 rfl (lv_at hl 3 rfl) ?_
                    refine lv_i2l hx hb dX12_citings_85 rfl ?_
                    refine lv_iconst (v := (3 : Int32)) hx hb dX12_citings_86 (by decide) ?_
                    refine lv_iload hx hb dX12_citings_87 (lv_at hl 5 rfl) ?_
                    refine lv_imul hx hb dX12_citings_89 ?_
                    refine lv_i2l hx hb dX12_citings_90 rfl ?_
                    refine lv_ladd hx hb dX12_citings_91 ?_
                    refine lv_topl (fun v14 ev14 => ?_)
                    have h := nm_a ev14 h
                    refine lv_lstore (lv' := [(6, .long v14), (0, .ref (ad 12 0)), (1, .int x1), (2, .int x2), (3, .int x3), (4, .int x4), (5, .int i11)]) hx hb dX12_citings_92 hl (by decide) rfl (fun ls hl => ?_)
                    refine lv_lload hx hb dX12_citings_94 (lv_at hl 0 rfl) ?_
                    refine lv_lconst (v := (0 : Int64)) hx hb dX12_citings_96 (by decide) ?_
                    refine W.lcmp hx hb dX12_citings_97 ?_
                    refine lv_if_lt (tgt := 124) hx hb dX12_citings_98 (by decide) (fun c15 => ?_) (fun c15 => ?_)
                    · have h := sh_t c15 h
                      refine lv_iload hx hb dX12_citings_124 (lv_at hl 6 rfl) ?_
                      exact tb_iretE h hx hb hr hS hW hlk dX12_citings_126
                    · have h := sh_f c15 h
                      refine lv_lload hx hb dX12_citings_101 (lv_at hl 0 rfl) ?_
                      refine lv_aload_n hx hb dX12_citings_103 rfl (lv_at hl 1 rfl) ?_
                      refine gtX12_134 hx hb hts hown hK hW cz12 dX12_citings_104 ?_
                      refine lv_iload_n hx hb dX12_citings_107 rfl (lv_at hl 3 rfl) ?_
                      obtain ⟨hj, h⟩ := ix_a h
                      refine al90 hx hb hK hW cz90 hj dX12_citings_108 ?_
                      refine lv_i2l hx hb dX12_citings_109 rfl ?_
                      refine W.lcmp hx hb dX12_citings_110 ?_
                      refine lv_if_ge (tgt := 124) hx hb dX12_citings_111 (by decide) (fun c16 => ?_) (fun c16 => ?_)
                      · have h := sh_t c16 h
                        refine lv_iload hx hb dX12_citings_124 (lv_at hl 6 rfl) ?_
                        exact tb_iretE h hx hb hr hS hW hlk dX12_citings_126
                      · have h := sh_f c16 h
                        refine lv_aload_n hx hb dX12_citings_114 rfl (lv_at hl 1 rfl) ?_
                        refine gtX12_154 hx hb hts hown hK hW cz12 dX12_citings_115 ?_
                        refine lv_sipush (v := (200 : Int32)) hx hb dX12_citings_118 (by decide) ?_
                        refine lv_icmp_ne (tgt := 127) hx hb dX12_citings_121 (by decide) (fun c17 => ?_) (fun c17 => ?_)
                        · have h := sh_f c17 h
                          refine lv_bipush (v := (60 : Int32)) hx hb dX12_citings_127 (by decide) ?_
                          refine lv_iload_n hx hb dX12_citings_129 rfl (lv_at hl 3 rfl) ?_
                          refine lv_imul hx hb dX12_citings_130 ?_
                          refine lv_lload hx hb dX12_citings_131 (lv_at hl 0 rfl) ?_
                          refine lv_l2i hx hb dX12_citings_133 rfl ?_
                          refine lv_iadd hx hb dX12_citings_134 ?_
                          refine lv_topi (fun v18 ev18 => ?_)
                          have h := nm_a ev18 h
                          refine lv_istore (lv' := [(8, .int v18), (6, .long v14), (0, .ref (ad 12 0)), (1, .int x1), (2, .int x2), (3, .int x3), (4, .int x4), (5, .int i11)]) hx hb dX12_citings_135 hl (by decide) rfl (fun ls hl => ?_)
                          refine lv_aload_n hx hb dX12_citings_137 rfl (lv_at hl 2 rfl) ?_
                          refine lv_iload_n hx hb dX12_citings_138 rfl (lv_at hl 3 rfl) ?_
                          refine lv_aload_n hx hb dX12_citings_139 rfl (lv_at hl 2 rfl) ?_
                          refine gtX12_137 hx hb hts hown hK hW cz12 dX12_citings_140 ?_
                          refine lv_iload hx hb dX12_citings_143 (lv_at hl 0 rfl) ?_
                          obtain ⟨hj, h⟩ := ix_a h
                          refine al91 hx hb hK hW cz91 hj dX12_citings_145 ?_
                          refine lv_l2i hx hb dX12_citings_146 rfl ?_
                          obtain ⟨b19, hcb19, h⟩ := bd_a h
                          refine tb_cVZ hZk hx hb hml hown hts hK hZ hW hS [.int x1, .int ((mgL M12 9100 0 v18.toNatClampNeg).toInt32)] (mX12_canLine (l := l) hZk x1 ((mgL M12 9100 0 v18.toNatClampNeg).toInt32) M12 b19 hcb19) pmX12_canLine tw1411 (Wd.recv hK hW (t := 12) (by decide) cz12 (C := RX12) (T := TX12) (N := 58) rfl) ⟨Nat.le_of_ble_eq_true rfl, Nat.le_of_ble_eq_true rfl⟩ rfl hl.1 (Nat.le_of_ble_eq_true rfl) ⟨Nat.le_refl _, Nat.le_refl _⟩ rfl dX12_citings_147 (fun H locs hW hS hzz => ?_)
                          have hzb19 := hzz
                          refine lv_if_ne (tgt := 156) hx hb dX12_citings_150 (by decide) (fun c20 => ?_) (fun c20 => ?_)
                          · have h := sh_f c20 h
                            refine lv_lload hx hb dX12_citings_156 (lv_at hl 1 rfl) ?_
                            refine lv_ldc2 hx hb hown (hts _ tw1430) dX12_citings_158 ?_
                            refine lv_ladd hx hb dX12_citings_161 ?_
                            refine lv_aload_n hx hb dX12_citings_162 rfl (lv_at hl 2 rfl) ?_
                            refine gtX12_134 hx hb hts hown hK hW cz12 dX12_citings_163 ?_
                            refine lv_iload_n hx hb dX12_citings_166 rfl (lv_at hl 4 rfl) ?_
                            obtain ⟨hj, h⟩ := ix_a h
                            refine al90 hx hb hK hW cz90 hj dX12_citings_167 ?_
                            refine lv_i2l hx hb dX12_citings_168 rfl ?_
                            refine W.lcmp hx hb dX12_citings_169 ?_
                            refine lv_if_ge (tgt := 214) hx hb dX12_citings_170 (by decide) (fun c21 => ?_) (fun c21 => ?_)
                            · have h := sh_t c21 h
                              refine lv_iconst (v := (0 : Int32)) hx hb dX12_citings_214 (by decide) ?_
                              refine lv_istore (lv' := [(9, .int (0 : Int32)), (8, .int v18), (6, .long v14), (0, .ref (ad 12 0)), (1, .int x1), (2, .int x2), (3, .int x3), (4, .int x4), (5, .int i11)]) hx hb dX12_citings_215 hl (by decide) rfl (fun ls hl => ?_)
                              refine lv_aload_n hx hb dX12_citings_217 rfl (lv_at hl 3 rfl) ?_
                              refine lv_iload_n hx hb dX12_citings_218 rfl (lv_at hl 4 rfl) ?_
                              refine lv_aload_n hx hb dX12_citings_219 rfl (lv_at hl 3 rfl) ?_
                              refine gtX12_137 hx hb hts hown hK hW cz12 dX12_citings_220 ?_
                              refine lv_iload hx hb dX12_citings_223 (lv_at hl 1 rfl) ?_
                              obtain ⟨hj, h⟩ := ix_a h
                              refine al91 hx hb hK hW cz91 hj dX12_citings_225 ?_
                              refine lv_l2i hx hb dX12_citings_226 rfl ?_
                              refine lv_iload hx hb dX12_citings_227 (lv_at hl 0 rfl) ?_
                              refine lv_if_eq (tgt := 245) hx hb dX12_citings_229 (by decide) (fun _ => ?_) (fun hc => absurd hc (by decide))
                              refine lv_iconst (v := (1 : Int32)) hx hb dX12_citings_245 (by decide) ?_
                              refine lv_iload hx hb dX12_citings_246 (lv_at hl 0 rfl) ?_
                              refine lv_if_eq (tgt := 264) hx hb dX12_citings_248 (by decide) (fun _ => ?_) (fun hc => absurd hc (by decide))
                              refine lv_iconst (v := (2 : Int32)) hx hb dX12_citings_264 (by decide) ?_
                              obtain ⟨b22, M23, hcb22, h⟩ := bE_a h
                              refine tb_cVI hZk hx hb hml hown hts hK hZ hW hS [.int x1, .int ((mgL M12 9100 0 v18.toNatClampNeg).toInt32), .int (1 : Int32), .int (2 : Int32)] (mX12_addLine (l := l) hZk x1 ((mgL M12 9100 0 v18.toNatClampNeg).toInt32) (1 : Int32) (2 : Int32) M12 b22 M23 hcb22) pmX12_addLine tw1419 (Wd.recv hK hW (t := 12) (by decide) cz12 (C := RX12) (T := TX12) (N := 58) rfl) ⟨Nat.le_of_ble_eq_true rfl, Nat.le_of_ble_eq_true rfl⟩ rfl hl.1 (Nat.le_of_ble_eq_true rfl) ⟨Nat.le_refl _, Nat.le_refl _⟩ rfl dX12_citings_265 (fun H locs hW hS => ?_)
                              refine lv_pop hx hb dX12_citings_268 rfl ?_
                              refine lv_iload hx hb dX12_citings_269 (lv_at hl 0 rfl) ?_
                              refine lv_if_ne (tgt := 279) hx hb dX12_citings_271 (by decide) (fun hc => absurd hc (by decide)) (fun _ => ?_)
                              refine lv_iload hx hb dX12_citings_274 (lv_at hl 8 rfl) ?_
                              refine lv_iconst (v := (1 : Int32)) hx hb dX12_citings_276 (by decide) ?_
                              refine lv_iadd hx hb dX12_citings_277 ?_
                              exact tb_iretE h hx hb hr hS hW hlk dX12_citings_278
                            · have h := sh_f c21 h
                              refine lv_aload_n hx hb dX12_citings_173 rfl (lv_at hl 2 rfl) ?_
                              refine gtX12_137 hx hb hts hown hK hW cz12 dX12_citings_174 ?_
                              refine lv_iload hx hb dX12_citings_177 (lv_at hl 0 rfl) ?_
                              refine lv_iconst (v := (1 : Int32)) hx hb dX12_citings_179 (by decide) ?_
                              refine lv_iadd hx hb dX12_citings_180 ?_
                              obtain ⟨hj, h⟩ := ix_a h
                              refine al91 hx hb hK hW cz91 hj dX12_citings_181 ?_
                              refine lv_l2i hx hb dX12_citings_182 rfl ?_
                              refine lv_iconst (v := (1 : Int32)) hx hb dX12_citings_183 (by decide) ?_
                              refine lv_bipush (v := (99 : Int32)) hx hb dX12_citings_184 (by decide) ?_
                              refine tb_cSZ hZk hx hb hml hown hts hK hZ hW hS [.int ((mgL M12 9100 0 (v18 + (1 : Int32)).toNatClampNeg).toInt32), .int (1 : Int32), .int (99 : Int32)] (mX12_in (l := l) hZk ((mgL M12 9100 0 (v18 + (1 : Int32)).toNatClampNeg).toInt32) (1 : Int32) (99 : Int32) M12 (fX12_in ((mgL M12 9100 0 (v18 + (1 : Int32)).toNatClampNeg).toInt32) (1 : Int32) (99 : Int32)) rfl) pmX12_in tw1401 ⟨Nat.le_of_ble_eq_true rfl, Nat.le_of_ble_eq_true rfl⟩ rfl hl.1 (Nat.le_of_ble_eq_true rfl) ⟨Nat.le_refl _, Nat.le_refl _⟩ rfl dX12_citings_186 (fun H locs hW hS hzz => ?_)
                              refine lv_topi (fun b24 eb24 => ?_)
                              have h := nm_a eb24 h
                              have hzb24 : b24 = 0 ∨ b24 = 1 := by rw [eb24]; exact hzz
                              refine lv_if_eq (tgt := 214) hx hb dX12_citings_189 (by decide) (fun c25 => ?_) (fun c25 => ?_)
                              · have h := sh_t c25 h
                                refine lv_iconst (v := (0 : Int32)) hx hb dX12_citings_214 (by decide) ?_
                                refine lv_istore (lv' := [(9, .int (0 : Int32)), (8, .int v18), (6, .long v14), (0, .ref (ad 12 0)), (1, .int x1), (2, .int x2), (3, .int x3), (4, .int x4), (5, .int i11)]) hx hb dX12_citings_215 hl (by decide) rfl (fun ls hl => ?_)
                                refine lv_aload_n hx hb dX12_citings_217 rfl (lv_at hl 3 rfl) ?_
                                refine lv_iload_n hx hb dX12_citings_218 rfl (lv_at hl 4 rfl) ?_
                                refine lv_aload_n hx hb dX12_citings_219 rfl (lv_at hl 3 rfl) ?_
                                refine gtX12_137 hx hb hts hown hK hW cz12 dX12_citings_220 ?_
                                refine lv_iload hx hb dX12_citings_223 (lv_at hl 1 rfl) ?_
                                obtain ⟨hj, h⟩ := ix_a h
                                refine al91 hx hb hK hW cz91 hj dX12_citings_225 ?_
                                refine lv_l2i hx hb dX12_citings_226 rfl ?_
                                refine lv_iload hx hb dX12_citings_227 (lv_at hl 0 rfl) ?_
                                refine lv_if_eq (tgt := 245) hx hb dX12_citings_229 (by decide) (fun _ => ?_) (fun hc => absurd hc (by decide))
                                refine lv_iconst (v := (1 : Int32)) hx hb dX12_citings_245 (by decide) ?_
                                refine lv_iload hx hb dX12_citings_246 (lv_at hl 0 rfl) ?_
                                refine lv_if_eq (tgt := 264) hx hb dX12_citings_248 (by decide) (fun _ => ?_) (fun hc => absurd hc (by decide))
                                refine lv_iconst (v := (2 : Int32)) hx hb dX12_citings_264 (by decide) ?_
                                obtain ⟨b26, M27, hcb26, h⟩ := bE_a h
                                refine tb_cVI hZk hx hb hml hown hts hK hZ hW hS [.int x1, .int ((mgL M12 9100 0 v18.toNatClampNeg).toInt32), .int (1 : Int32), .int (2 : Int32)] (mX12_addLine (l := l) hZk x1 ((mgL M12 9100 0 v18.toNatClampNeg).toInt32) (1 : Int32) (2 : Int32) M12 b26 M27 hcb26) pmX12_addLine tw1419 (Wd.recv hK hW (t := 12) (by decide) cz12 (C := RX12) (T := TX12) (N := 58) rfl) ⟨Nat.le_of_ble_eq_true rfl, Nat.le_of_ble_eq_true rfl⟩ rfl hl.1 (Nat.le_of_ble_eq_true rfl) ⟨Nat.le_refl _, Nat.le_refl _⟩ rfl dX12_citings_265 (fun H locs hW hS => ?_)
                                refine lv_pop hx hb dX12_citings_268 rfl ?_
                                refine lv_iload hx hb dX12_citings_269 (lv_at hl 0 rfl) ?_
                                refine lv_if_ne (tgt := 279) hx hb dX12_citings_271 (by decide) (fun hc => absurd hc (by decide)) (fun _ => ?_)
                                refine lv_iload hx hb dX12_citings_274 (lv_at hl 8 rfl) ?_
                                refine lv_iconst (v := (1 : Int32)) hx hb dX12_citings_276 (by decide) ?_
                                refine lv_iadd hx hb dX12_citings_277 ?_
                                exact tb_iretE h hx hb hr hS hW hlk dX12_citings_278
                              · have h := sh_f c25 h
                                refine lv_aload_n hx hb dX12_citings_192 rfl (lv_at hl 2 rfl) ?_
                                refine gtX12_137 hx hb hts hown hK hW cz12 dX12_citings_193 ?_
                                refine lv_iload hx hb dX12_citings_196 (lv_at hl 0 rfl) ?_
                                refine lv_iconst (v := (2 : Int32)) hx hb dX12_citings_198 (by decide) ?_
                                refine lv_iadd hx hb dX12_citings_199 ?_
                                obtain ⟨hj, h⟩ := ix_a h
                                refine al91 hx hb hK hW cz91 hj dX12_citings_200 ?_
                                refine lv_l2i hx hb dX12_citings_201 rfl ?_
                                refine lv_iconst (v := (0 : Int32)) hx hb dX12_citings_202 (by decide) ?_
                                refine lv_iconst (v := (2 : Int32)) hx hb dX12_citings_203 (by decide) ?_
                                refine tb_cSZ hZk hx hb hml hown hts hK hZ hW hS [.int ((mgL M12 9100 0 (v18 + (2 : Int32)).toNatClampNeg).toInt32), .int (0 : Int32), .int (2 : Int32)] (mX12_in (l := l) hZk ((mgL M12 9100 0 (v18 + (2 : Int32)).toNatClampNeg).toInt32) (0 : Int32) (2 : Int32) M12 (fX12_in ((mgL M12 9100 0 (v18 + (2 : Int32)).toNatClampNeg).toInt32) (0 : Int32) (2 : Int32)) rfl) pmX12_in tw1401 ⟨Nat.le_of_ble_eq_true rfl, Nat.le_of_ble_eq_true rfl⟩ rfl hl.1 (Nat.le_of_ble_eq_true rfl) ⟨Nat.le_refl _, Nat.le_refl _⟩ rfl dX12_citings_204 (fun H locs hW hS hzz => ?_)
                                refine lv_topi (fun b28 eb28 => ?_)
                                have h := nm_a eb28 h
                                have hzb28 : b28 = 0 ∨ b28 = 1 := by rw [eb28]; exact hzz
                                refine lv_if_eq (tgt := 214) hx hb dX12_citings_207 (by decide) (fun c29 => ?_) (fun c29 => ?_)
                                · have h := sh_t c29 h
                                  refine lv_iconst (v := (0 : Int32)) hx hb dX12_citings_214 (by decide) ?_
                                  refine lv_istore (lv' := [(9, .int (0 : Int32)), (8, .int v18), (6, .long v14), (0, .ref (ad 12 0)), (1, .int x1), (2, .int x2), (3, .int x3), (4, .int x4), (5, .int i11)]) hx hb dX12_citings_215 hl (by decide) rfl (fun ls hl => ?_)
                                  refine lv_aload_n hx hb dX12_citings_217 rfl (lv_at hl 3 rfl) ?_
                                  refine lv_iload_n hx hb dX12_citings_218 rfl (lv_at hl 4 rfl) ?_
                                  refine lv_aload_n hx hb dX12_citings_219 rfl (lv_at hl 3 rfl) ?_
                                  refine gtX12_137 hx hb hts hown hK hW cz12 dX12_citings_220 ?_
                                  refine lv_iload hx hb dX12_citings_223 (lv_at hl 1 rfl) ?_
                                  obtain ⟨hj, h⟩ := ix_a h
                                  refine al91 hx hb hK hW cz91 hj dX12_citings_225 ?_
                                  refine lv_l2i hx hb dX12_citings_226 rfl ?_
                                  refine lv_iload hx hb dX12_citings_227 (lv_at hl 0 rfl) ?_
                                  refine lv_if_eq (tgt := 245) hx hb dX12_citings_229 (by decide) (fun _ => ?_) (fun hc => absurd hc (by decide))
                                  refine lv_iconst (v := (1 : Int32)) hx hb dX12_citings_245 (by decide) ?_
                                  refine lv_iload hx hb dX12_citings_246 (lv_at hl 0 rfl) ?_
                                  refine lv_if_eq (tgt := 264) hx hb dX12_citings_248 (by decide) (fun _ => ?_) (fun hc => absurd hc (by decide))
                                  refine lv_iconst (v := (2 : Int32)) hx hb dX12_citings_264 (by decide) ?_
                                  obtain ⟨b30, M31, hcb30, h⟩ := bE_a h
                                  refine tb_cVI hZk hx hb hml hown hts hK hZ hW hS [.int x1, .int ((mgL M12 9100 0 v18.toNatClampNeg).toInt32), .int (1 : Int32), .int (2 : Int32)] (mX12_addLine (l := l) hZk x1 ((mgL M12 9100 0 v18.toNatClampNeg).toInt32) (1 : Int32) (2 : Int32) M12 b30 M31 hcb30) pmX12_addLine tw1419 (Wd.recv hK hW (t := 12) (by decide) cz12 (C := RX12) (T := TX12) (N := 58) rfl) ⟨Nat.le_of_ble_eq_true rfl, Nat.le_of_ble_eq_true rfl⟩ rfl hl.1 (Nat.le_of_ble_eq_true rfl) ⟨Nat.le_refl _, Nat.le_refl _⟩ rfl dX12_citings_265 (fun H locs hW hS => ?_)
                                  refine lv_pop hx hb dX12_citings_268 rfl ?_
                                  refine lv_iload hx hb dX12_citings_269 (lv_at hl 0 rfl) ?_
                                  refine lv_if_ne (tgt := 279) hx hb dX12_citings_271 (by decide) (fun hc => absurd hc (by decide)) (fun _ => ?_)
                                  refine lv_iload hx hb dX12_citings_274 (lv_at hl 8 rfl) ?_
                                  refine lv_iconst (v := (1 : Int32)) hx hb dX12_citings_276 (by decide) ?_
                                  refine lv_iadd hx hb dX12_citings_277 ?_
                                  exact tb_iretE h hx hb hr hS hW hlk dX12_citings_278
                                · have h := sh_f c29 h
                                  refine lv_iconst (v := (1 : Int32)) hx hb dX12_citings_210 (by decide) ?_
                                  refine lv_goto (tgt := 215) hx hb dX12_citings_211 (by decide) ?_
                                  refine lv_istore (lv' := [(9, .int (1 : Int32)), (8, .int v18), (6, .long v14), (0, .ref (ad 12 0)), (1, .int x1), (2, .int x2), (3, .int x3), (4, .int x4), (5, .int i11)]) hx hb dX12_citings_215 hl (by decide) rfl (fun ls hl => ?_)
                                  refine lv_aload_n hx hb dX12_citings_217 rfl (lv_at hl 3 rfl) ?_
                                  refine lv_iload_n hx hb dX12_citings_218 rfl (lv_at hl 4 rfl) ?_
                                  refine lv_aload_n hx hb dX12_citings_219 rfl (lv_at hl 3 rfl) ?_
                                  refine gtX12_137 hx hb hts hown hK hW cz12 dX12_citings_220 ?_
                                  refine lv_iload hx hb dX12_citings_223 (lv_at hl 1 rfl) ?_
                                  obtain ⟨hj, h⟩ := ix_a h
                                  refine al91 hx hb hK hW cz91 hj dX12_citings_225 ?_
                                  refine lv_l2i hx hb dX12_citings_226 rfl ?_
                                  refine lv_iload hx hb dX12_citings_227 (lv_at hl 0 rfl) ?_
                                  refine lv_if_eq (tgt := 245) hx hb dX12_citings_229 (by decide) (fun hc => absurd hc (by decide)) (fun _ => ?_)
                                  refine lv_aload_n hx hb dX12_citings_232 rfl (lv_at hl 3 rfl) ?_
                                  refine gtX12_137 hx hb hts hown hK hW cz12 dX12_citings_233 ?_
                                  refine lv_iload hx hb dX12_citings_236 (lv_at hl 1 rfl) ?_
                                  refine lv_iconst (v := (1 : Int32)) hx hb dX12_citings_238 (by decide) ?_
                                  refine lv_iadd hx hb dX12_citings_239 ?_
                                  obtain ⟨hj, h⟩ := ix_a h
                                  refine al91 hx hb hK hW cz91 hj dX12_citings_240 ?_
                                  refine lv_l2i hx hb dX12_citings_241 rfl ?_
                                  refine lv_goto (tgt := 246) hx hb dX12_citings_242 (by decide) ?_
                                  refine lv_iload hx hb dX12_citings_246 (lv_at hl 0 rfl) ?_
                                  refine lv_if_eq (tgt := 264) hx hb dX12_citings_248 (by decide) (fun hc => absurd hc (by decide)) (fun _ => ?_)
                                  refine lv_aload_n hx hb dX12_citings_251 rfl (lv_at hl 3 rfl) ?_
                                  refine gtX12_137 hx hb hts hown hK hW cz12 dX12_citings_252 ?_
                                  refine lv_iload hx hb dX12_citings_255 (lv_at hl 1 rfl) ?_
                                  refine lv_iconst (v := (2 : Int32)) hx hb dX12_citings_257 (by decide) ?_
                                  refine lv_iadd hx hb dX12_citings_258 ?_
                                  obtain ⟨hj, h⟩ := ix_a h
                                  refine al91 hx hb hK hW cz91 hj dX12_citings_259 ?_
                                  refine lv_l2i hx hb dX12_citings_260 rfl ?_
                                  refine lv_goto (tgt := 265) hx hb dX12_citings_261 (by decide) ?_
                                  obtain ⟨b32, M33, hcb32, h⟩ := bE_a h
                                  refine tb_cVI hZk hx hb hml hown hts hK hZ hW hS [.int x1, .int ((mgL M12 9100 0 v18.toNatClampNeg).toInt32), .int ((mgL M12 9100 0 (v18 + (1 : Int32)).toNatClampNeg).toInt32), .int ((mgL M12 9100 0 (v18 + (2 : Int32)).toNatClampNeg).toInt32)] (mX12_addLine (l := l) hZk x1 ((mgL M12 9100 0 v18.toNatClampNeg).toInt32) ((mgL M12 9100 0 (v18 + (1 : Int32)).toNatClampNeg).toInt32) ((mgL M12 9100 0 (v18 + (2 : Int32)).toNatClampNeg).toInt32) M12 b32 M33 hcb32) pmX12_addLine tw1419 (Wd.recv hK hW (t := 12) (by decide) cz12 (C := RX12) (T := TX12) (N := 58) rfl) ⟨Nat.le_of_ble_eq_true rfl, Nat.le_of_ble_eq_true rfl⟩ rfl hl.1 (Nat.le_of_ble_eq_true rfl) ⟨Nat.le_refl _, Nat.le_refl _⟩ rfl dX12_citings_265 (fun H locs hW hS => ?_)
                                  refine lv_pop hx hb dX12_citings_268 rfl ?_
                                  refine lv_iload hx hb dX12_citings_269 (lv_at hl 0 rfl) ?_
                                  refine lv_if_ne (tgt := 279) hx hb dX12_citings_271 (by decide) (fun _ => ?_) (fun hc => absurd hc (by decide))
                                  obtain ⟨v34, ev34⟩ : ∃ y : Int32, y = i11 + (1 : Int32) := ⟨_, rfl⟩
                                  have h := nm_a ev34 h
                                  refine lv_iinc (v := v34) (lv' := [(5, .int v34), (9, .int (1 : Int32)), (8, .int v18), (6, .long v14), (0, .ref (ad 12 0)), (1, .int x1), (2, .int x2), (3, .int x3), (4, .int x4)]) hx hb dX12_citings_279 hl (k := 8) rfl (by rw [ev34]; rfl) (by decide) rfl (fun ls hl => ?_)
                                  refine lv_goto (tgt := 77) hx hb dX12_citings_282 (by decide) ?_
                                  exact ih10 v34 M33 _ _ _ hW hS (lv_sub hl [4, 5, 6, 7, 8, 0] rfl) h
                          · have h := sh_t c20 h
                            refine lv_iload hx hb dX12_citings_153 (lv_at hl 7 rfl) ?_
                            exact tb_iretE h hx hb hr hS hW hlk dX12_citings_155
                        · have h := sh_t c17 h
                          refine lv_iload hx hb dX12_citings_124 (lv_at hl 6 rfl) ?_
                          exact tb_iretE h hx hb hr hS hW hlk dX12_citings_126
              exact L10 FU (0 : Int32) M0 _ _ _ hW hS (lv_sub hl [1, 2, 3, 4, 5, 0] rfl) h
            · have h := sh_t c9 h
              refine lv_iconst (v := (0 : Int32)) hx hb dX12_citings_72 (by decide) ?_
              exact tb_iretE h hx hb hr hS hW hlk dX12_citings_73
          · have h := sh_f c8 h
            refine lv_aload_n hx hb dX12_citings_48 rfl (lv_at hl 0 rfl) ?_
            refine gtX12_131 hx hb hts hown hK hW cz12 dX12_citings_49 ?_
            refine lv_iload_n hx hb dX12_citings_52 rfl (lv_at hl 2 rfl) ?_
            obtain ⟨hj, h⟩ := ix_a h
            refine al89 hx hb hK hW cz89 hj dX12_citings_53 ?_
            refine lv_bipush (v := (-2 : Int32)) hx hb dX12_citings_54 (by decide) ?_
            refine lv_icmp_eq (tgt := 62) hx hb dX12_citings_56 (by decide) (fun c35 => ?_) (fun c35 => ?_)
            · have h := sh_t c35 h
              refine lv_aload_n hx hb dX12_citings_62 rfl (lv_at hl 0 rfl) ?_
              refine gtX12_131 hx hb hts hown hK hW cz12 dX12_citings_63 ?_
              refine lv_iload_n hx hb dX12_citings_66 rfl (lv_at hl 2 rfl) ?_
              obtain ⟨hj, h⟩ := ix_a h
              refine al89 hx hb hK hW cz89 hj dX12_citings_67 ?_
              refine lv_iconst (v := (-1 : Int32)) hx hb dX12_citings_68 (by decide) ?_
              refine lv_icmp_ne (tgt := 74) hx hb dX12_citings_69 (by decide) (fun c36 => ?_) (fun c36 => ?_)
              · have h := sh_f c36 h
                refine lv_iconst (v := (0 : Int32)) hx hb dX12_citings_74 (by decide) ?_
                refine lv_istore (lv' := [(5, .int (0 : Int32)), (0, .ref (ad 12 0)), (1, .int x1), (2, .int x2), (3, .int x3), (4, .int x4)]) hx hb dX12_citings_75 hl (by decide) rfl (fun ls hl => ?_)
                have L37 : ∀ (n37 : Nat) (i38 : Int32) (M39 : Mem) (H : Heap) (locs : List Loc) (ls : Array Slot), Wd D cy A cnM ad M39 H → va_S A s.heap H locs → lv_has ls 10 [(0, .ref (ad 12 0)), (1, .int x1), (2, .int x2), (3, .int x3), (4, .int x4), (5, .int i38)] → fX12_citings_l77_37 x4 x3 x2 x1 n37 i38 M39 = some (r, M') → W p l e (rm 3 66) s m args below meth c H locs 0 0 (MQ below (QI D cy A cnM ad r M') args s 0 0 A) (F0 m 77 ls []) := by
                  intro n37
                  induction n37 with
                  | zero => intro i38 M39 H locs ls hW hS hl h; cases h
                  | succ n37 ih37 =>
                    intro i38 M39 H locs ls hW hS hl h
                    unfold fX12_citings_l77_37 fX12_citings_b77_37 at h
                    refine lv_iload hx hb dX12_citings_77 (lv_at hl 5 rfl) ?_
                    refine lv_iload hx hb dX12_citings_79 (lv_at hl 4 rfl) ?_
                    refine lv_icmp_ge (tgt := 285) hx hb dX12_citings_81 (by decide) (fun c40 => ?_) (fun c40 => ?_)
                    · have h := sh_t c40 h
                      refine lv_iload hx hb dX12_citings_285 (lv_at hl 4 rfl) ?_
                      exact tb_iretE h hx hb hr hS hW hlk dX12_citings_287
                    · have h := sh_f c40 h
                      refine lv_iload_n hx hb dX12_citings_84 rfl (lv_at hl 3 rfl) ?_
                      refine lv_i2l hx hb dX12_citings_85 rfl ?_
                      refine lv_iconst (v := (3 : Int32)) hx hb dX12_citings_86 (by decide) ?_
                      refine lv_iload hx hb dX12_citings_87 (lv_at hl 5 rfl) ?_
                      refine lv_imul hx hb dX12_citings_89 ?_
                      refine lv_i2l hx hb dX12_citings_90 rfl ?_
                      refine lv_ladd hx hb dX12_citings_91 ?_
                      refine lv_topl (fun v41 ev41 => ?_)
                      have h := nm_a ev41 h
                      refine lv_lstore (lv' := [(6, .long v41), (0, .ref (ad 12 0)), (1, .int x1), (2, .int x2), (3, .int x3), (4, .int x4), (5, .int i38)]) hx hb dX12_citings_92 hl (by decide) rfl (fun ls hl => ?_)
                      refine lv_lload hx hb dX12_citings_94 (lv_at hl 0 rfl) ?_
                      refine lv_lconst (v := (0 : Int64)) hx hb dX12_citings_96 (by decide) ?_
                      refine W.lcmp hx hb dX12_citings_97 ?_
                      refine lv_if_lt (tgt := 124) hx hb dX12_citings_98 (by decide) (fun c42 => ?_) (fun c42 => ?_)
                      · have h := sh_t c42 h
                        refine lv_iload hx hb dX12_citings_124 (lv_at hl 6 rfl) ?_
                        exact tb_iretE h hx hb hr hS hW hlk dX12_citings_126
                      · have h := sh_f c42 h
                        refine lv_lload hx hb dX12_citings_101 (lv_at hl 0 rfl) ?_
                        refine lv_aload_n hx hb dX12_citings_103 rfl (lv_at hl 1 rfl) ?_
                        refine gtX12_134 hx hb hts hown hK hW cz12 dX12_citings_104 ?_
                        refine lv_iload_n hx hb dX12_citings_107 rfl (lv_at hl 3 rfl) ?_
                        obtain ⟨hj, h⟩ := ix_a h
                        refine al90 hx hb hK hW cz90 hj dX12_citings_108 ?_
                        refine lv_i2l hx hb dX12_citings_109 rfl ?_
                        refine W.lcmp hx hb dX12_citings_110 ?_
                        refine lv_if_ge (tgt := 124) hx hb dX12_citings_111 (by decide) (fun c43 => ?_) (fun c43 => ?_)
                        · have h := sh_t c43 h
                          refine lv_iload hx hb dX12_citings_124 (lv_at hl 6 rfl) ?_
                          exact tb_iretE h hx hb hr hS hW hlk dX12_citings_126
                        · have h := sh_f c43 h
                          refine lv_aload_n hx hb dX12_citings_114 rfl (lv_at hl 1 rfl) ?_
                          refine gtX12_154 hx hb hts hown hK hW cz12 dX12_citings_115 ?_
                          refine lv_sipush (v := (200 : Int32)) hx hb dX12_citings_118 (by decide) ?_
                          refine lv_icmp_ne (tgt := 127) hx hb dX12_citings_121 (by decide) (fun c44 => ?_) (fun c44 => ?_)
                          · have h := sh_f c44 h
                            refine lv_bipush (v := (60 : Int32)) hx hb dX12_citings_127 (by decide) ?_
                            refine lv_iload_n hx hb dX12_citings_129 rfl (lv_at hl 3 rfl) ?_
                            refine lv_imul hx hb dX12_citings_130 ?_
                            refine lv_lload hx hb dX12_citings_131 (lv_at hl 0 rfl) ?_
                            refine lv_l2i hx hb dX12_citings_133 rfl ?_
                            refine lv_iadd hx hb dX12_citings_134 ?_
                            refine lv_topi (fun v45 ev45 => ?_)
                            have h := nm_a ev45 h
                            refine lv_istore (lv' := [(8, .int v45), (6, .long v41), (0, .ref (ad 12 0)), (1, .int x1), (2, .int x2), (3, .int x3), (4, .int x4), (5, .int i38)]) hx hb dX12_citings_135 hl (by decide) rfl (fun ls hl => ?_)
                            refine lv_aload_n hx hb dX12_citings_137 rfl (lv_at hl 2 rfl) ?_
                            refine lv_iload_n hx hb dX12_citings_138 rfl (lv_at hl 3 rfl) ?_
                            refine lv_aload_n hx hb dX12_citings_139 rfl (lv_at hl 2 rfl) ?_
                            refine gtX12_137 hx hb hts hown hK hW cz12 dX12_citings_140 ?_
                            refine lv_iload hx hb dX12_citings_143 (lv_at hl 0 rfl) ?_
                            obtain ⟨hj, h⟩ := ix_a h
                            refine al91 hx hb hK hW cz91 hj dX12_citings_145 ?_
                            refine lv_l2i hx hb dX12_citings_146 rfl ?_
                            obtain ⟨b46, hcb46, h⟩ := bd_a h
                            refine tb_cVZ hZk hx hb hml hown hts hK hZ hW hS [.int x1, .int ((mgL M39 9100 0 v45.toNatClampNeg).toInt32)] (mX12_canLine (l := l) hZk x1 ((mgL M39 9100 0 v45.toNatClampNeg).toInt32) M39 b46 hcb46) pmX12_canLine tw1411 (Wd.recv hK hW (t := 12) (by decide) cz12 (C := RX12) (T := TX12) (N := 58) rfl) ⟨Nat.le_of_ble_eq_true rfl, Nat.le_of_ble_eq_true rfl⟩ rfl hl.1 (Nat.le_of_ble_eq_true rfl) ⟨Nat.le_refl _, Nat.le_refl _⟩ rfl dX12_citings_147 (fun H locs hW hS hzz => ?_)
                            have hzb46 := hzz
                            refine lv_if_ne (tgt := 156) hx hb dX12_citings_150 (by decide) (fun c47 => ?_) (fun c47 => ?_)
                            · have h := sh_f c47 h
                              refine lv_lload hx hb dX12_citings_156 (lv_at hl 1 rfl) ?_
                              refine lv_ldc2 hx hb hown (hts _ tw1430) dX12_citings_158 ?_
                              refine lv_ladd hx hb dX12_citings_161 ?_
                              refine lv_aload_n hx hb dX12_citings_162 rfl (lv_at hl 2 rfl) ?_
                              refine gtX12_134 hx hb hts hown hK hW cz12 dX12_citings_163 ?_
                              refine lv_iload_n hx hb dX12_citings_166 rfl (lv_at hl 4 rfl) ?_
                              obtain ⟨hj, h⟩ := ix_a h
                              refine al90 hx hb hK hW cz90 hj dX12_citings_167 ?_
                              refine lv_i2l hx hb dX12_citings_168 rfl ?_
                              refine W.lcmp hx hb dX12_citings_169 ?_
                              refine lv_if_ge (tgt := 214) hx hb dX12_citings_170 (by decide) (fun c48 => ?_) (fun c48 => ?_)
                              · have h := sh_t c48 h
                                refine lv_iconst (v := (0 : Int32)) hx hb dX12_citings_214 (by decide) ?_
                                refine lv_istore (lv' := [(9, .int (0 : Int32)), (8, .int v45), (6, .long v41), (0, .ref (ad 12 0)), (1, .int x1), (2, .int x2), (3, .int x3), (4, .int x4), (5, .int i38)]) hx hb dX12_citings_215 hl (by decide) rfl (fun ls hl => ?_)
                                refine lv_aload_n hx hb dX12_citings_217 rfl (lv_at hl 3 rfl) ?_
                                refine lv_iload_n hx hb dX12_citings_218 rfl (lv_at hl 4 rfl) ?_
                                refine lv_aload_n hx hb dX12_citings_219 rfl (lv_at hl 3 rfl) ?_
                                refine gtX12_137 hx hb hts hown hK hW cz12 dX12_citings_220 ?_
                                refine lv_iload hx hb dX12_citings_223 (lv_at hl 1 rfl) ?_
                                obtain ⟨hj, h⟩ := ix_a h
                                refine al91 hx hb hK hW cz91 hj dX12_citings_225 ?_
                                refine lv_l2i hx hb dX12_citings_226 rfl ?_
                                refine lv_iload hx hb dX12_citings_227 (lv_at hl 0 rfl) ?_
                                refine lv_if_eq (tgt := 245) hx hb dX12_citings_229 (by decide) (fun _ => ?_) (fun hc => absurd hc (by decide))
                                refine lv_iconst (v := (1 : Int32)) hx hb dX12_citings_245 (by decide) ?_
                                refine lv_iload hx hb dX12_citings_246 (lv_at hl 0 rfl) ?_
                                refine lv_if_eq (tgt := 264) hx hb dX12_citings_248 (by decide) (fun _ => ?_) (fun hc => absurd hc (by decide))
                                refine lv_iconst (v := (2 : Int32)) hx hb dX12_citings_264 (by decide) ?_
                                obtain ⟨b49, M50, hcb49, h⟩ := bE_a h
                                refine tb_cVI hZk hx hb hml hown hts hK hZ hW hS [.int x1, .int ((mgL M39 9100 0 v45.toNatClampNeg).toInt32), .int (1 : Int32), .int (2 : Int32)] (mX12_addLine (l := l) hZk x1 ((mgL M39 9100 0 v45.toNatClampNeg).toInt32) (1 : Int32) (2 : Int32) M39 b49 M50 hcb49) pmX12_addLine tw1419 (Wd.recv hK hW (t := 12) (by decide) cz12 (C := RX12) (T := TX12) (N := 58) rfl) ⟨Nat.le_of_ble_eq_true rfl, Nat.le_of_ble_eq_true rfl⟩ rfl hl.1 (Nat.le_of_ble_eq_true rfl) ⟨Nat.le_refl _, Nat.le_refl _⟩ rfl dX12_citings_265 (fun H locs hW hS => ?_)
                                refine lv_pop hx hb dX12_citings_268 rfl ?_
                                refine lv_iload hx hb dX12_citings_269 (lv_at hl 0 rfl) ?_
                                refine lv_if_ne (tgt := 279) hx hb dX12_citings_271 (by decide) (fun hc => absurd hc (by decide)) (fun _ => ?_)
                                refine lv_iload hx hb dX12_citings_274 (lv_at hl 8 rfl) ?_
                                refine lv_iconst (v := (1 : Int32)) hx hb dX12_citings_276 (by decide) ?_
                                refine lv_iadd hx hb dX12_citings_277 ?_
                                exact tb_iretE h hx hb hr hS hW hlk dX12_citings_278
                              · have h := sh_f c48 h
                                refine lv_aload_n hx hb dX12_citings_173 rfl (lv_at hl 2 rfl) ?_
                                refine gtX12_137 hx hb hts hown hK hW cz12 dX12_citings_174 ?_
                                refine lv_iload hx hb dX12_citings_177 (lv_at hl 0 rfl) ?_
                                refine lv_iconst (v := (1 : Int32)) hx hb dX12_citings_179 (by decide) ?_
                                refine lv_iadd hx hb dX12_citings_180 ?_
                                obtain ⟨hj, h⟩ := ix_a h
                                refine al91 hx hb hK hW cz91 hj dX12_citings_181 ?_
                                refine lv_l2i hx hb dX12_citings_182 rfl ?_
                                refine lv_iconst (v := (1 : Int32)) hx hb dX12_citings_183 (by decide) ?_
                                refine lv_bipush (v := (99 : Int32)) hx hb dX12_citings_184 (by decide) ?_
                                refine tb_cSZ hZk hx hb hml hown hts hK hZ hW hS [.int ((mgL M39 9100 0 (v45 + (1 : Int32)).toNatClampNeg).toInt32), .int (1 : Int32), .int (99 : Int32)] (mX12_in (l := l) hZk ((mgL M39 9100 0 (v45 + (1 : Int32)).toNatClampNeg).toInt32) (1 : Int32) (99 : Int32) M39 (fX12_in ((mgL M39 9100 0 (v45 + (1 : Int32)).toNatClampNeg).toInt32) (1 : Int32) (99 : Int32)) rfl) pmX12_in tw1401 ⟨Nat.le_of_ble_eq_true rfl, Nat.le_of_ble_eq_true rfl⟩ rfl hl.1 (Nat.le_of_ble_eq_true rfl) ⟨Nat.le_refl _, Nat.le_refl _⟩ rfl dX12_citings_186 (fun H locs hW hS hzz => ?_)
                                refine lv_topi (fun b51 eb51 => ?_)
                                have h := nm_a eb51 h
                                have hzb51 : b51 = 0 ∨ b51 = 1 := by rw [eb51]; exact hzz
                                refine lv_if_eq (tgt := 214) hx hb dX12_citings_189 (by decide) (fun c52 => ?_) (fun c52 => ?_)
                                · have h := sh_t c52 h
                                  refine lv_iconst (v := (0 : Int32)) hx hb dX12_citings_214 (by decide) ?_
                                  refine lv_istore (lv' := [(9, .int (0 : Int32)), (8, .int v45), (6, .long v41), (0, .ref (ad 12 0)), (1, .int x1), (2, .int x2), (3, .int x3), (4, .int x4), (5, .int i38)]) hx hb dX12_citings_215 hl (by decide) rfl (fun ls hl => ?_)
                                  refine lv_aload_n hx hb dX12_citings_217 rfl (lv_at hl 3 rfl) ?_
                                  refine lv_iload_n hx hb dX12_citings_218 rfl (lv_at hl 4 rfl) ?_
                                  refine lv_aload_n hx hb dX12_citings_219 rfl (lv_at hl 3 rfl) ?_
                                  refine gtX12_137 hx hb hts hown hK hW cz12 dX12_citings_220 ?_
                                  refine lv_iload hx hb dX12_citings_223 (lv_at hl 1 rfl) ?_
                                  obtain ⟨hj, h⟩ := ix_a h
                                  refine al91 hx hb hK hW cz91 hj dX12_citings_225 ?_
                                  refine lv_l2i hx hb dX12_citings_226 rfl ?_
                                  refine lv_iload hx hb dX12_citings_227 (lv_at hl 0 rfl) ?_
                                  refine lv_if_eq (tgt := 245) hx hb dX12_citings_229 (by decide) (fun _ => ?_) (fun hc => absurd hc (by decide))
                                  refine lv_iconst (v := (1 : Int32)) hx hb dX12_citings_245 (by decide) ?_
                                  refine lv_iload hx hb dX12_citings_246 (lv_at hl 0 rfl) ?_
                                  refine lv_if_eq (tgt := 264) hx hb dX12_citings_248 (by decide) (fun _ => ?_) (fun hc => absurd hc (by decide))
                                  refine lv_iconst (v := (2 : Int32)) hx hb dX12_citings_264 (by decide) ?_
                                  obtain ⟨b53, M54, hcb53, h⟩ := bE_a h
                                  refine tb_cVI hZk hx hb hml hown hts hK hZ hW hS [.int x1, .int ((mgL M39 9100 0 v45.toNatClampNeg).toInt32), .int (1 : Int32), .int (2 : Int32)] (mX12_addLine (l := l) hZk x1 ((mgL M39 9100 0 v45.toNatClampNeg).toInt32) (1 : Int32) (2 : Int32) M39 b53 M54 hcb53) pmX12_addLine tw1419 (Wd.recv hK hW (t := 12) (by decide) cz12 (C := RX12) (T := TX12) (N := 58) rfl) ⟨Nat.le_of_ble_eq_true rfl, Nat.le_of_ble_eq_true rfl⟩ rfl hl.1 (Nat.le_of_ble_eq_true rfl) ⟨Nat.le_refl _, Nat.le_refl _⟩ rfl dX12_citings_265 (fun H locs hW hS => ?_)
                                  refine lv_pop hx hb dX12_citings_268 rfl ?_
                                  refine lv_iload hx hb dX12_citings_269 (lv_at hl 0 rfl) ?_
                                  refine lv_if_ne (tgt := 279) hx hb dX12_citings_271 (by decide) (fun hc => absurd hc (by decide)) (fun _ => ?_)
                                  refine lv_iload hx hb dX12_citings_274 (lv_at hl 8 rfl) ?_
                                  refine lv_iconst (v := (1 : Int32)) hx hb dX12_citings_276 (by decide) ?_
                                  refine lv_iadd hx hb dX12_citings_277 ?_
                                  exact tb_iretE h hx hb hr hS hW hlk dX12_citings_278
                                · have h := sh_f c52 h
                                  refine lv_aload_n hx hb dX12_citings_192 rfl (lv_at hl 2 rfl) ?_
                                  refine gtX12_137 hx hb hts hown hK hW cz12 dX12_citings_193 ?_
                                  refine lv_iload hx hb dX12_citings_196 (lv_at hl 0 rfl) ?_
                                  refine lv_iconst (v := (2 : Int32)) hx hb dX12_citings_198 (by decide) ?_
                                  refine lv_iadd hx hb dX12_citings_199 ?_
                                  obtain ⟨hj, h⟩ := ix_a h
                                  refine al91 hx hb hK hW cz91 hj dX12_citings_200 ?_
                                  refine lv_l2i hx hb dX12_citings_201 rfl ?_
                                  refine lv_iconst (v := (0 : Int32)) hx hb dX12_citings_202 (by decide) ?_
                                  refine lv_iconst (v := (2 : Int32)) hx hb dX12_citings_203 (by decide) ?_
                                  refine tb_cSZ hZk hx hb hml hown hts hK hZ hW hS [.int ((mgL M39 9100 0 (v45 + (2 : Int32)).toNatClampNeg).toInt32), .int (0 : Int32), .int (2 : Int32)] (mX12_in (l := l) hZk ((mgL M39 9100 0 (v45 + (2 : Int32)).toNatClampNeg).toInt32) (0 : Int32) (2 : Int32) M39 (fX12_in ((mgL M39 9100 0 (v45 + (2 : Int32)).toNatClampNeg).toInt32) (0 : Int32) (2 : Int32)) rfl) pmX12_in tw1401 ⟨Nat.le_of_ble_eq_true rfl, Nat.le_of_ble_eq_true rfl⟩ rfl hl.1 (Nat.le_of_ble_eq_true rfl) ⟨Nat.le_refl _, Nat.le_refl _⟩ rfl dX12_citings_204 (fun H locs hW hS hzz => ?_)
                                  refine lv_topi (fun b55 eb55 => ?_)
                                  have h := nm_a eb55 h
                                  have hzb55 : b55 = 0 ∨ b55 = 1 := by rw [eb55]; exact hzz
                                  refine lv_if_eq (tgt := 214) hx hb dX12_citings_207 (by decide) (fun c56 => ?_) (fun c56 => ?_)
                                  · have h := sh_t c56 h
                                    refine lv_iconst (v := (0 : Int32)) hx hb dX12_citings_214 (by decide) ?_
                                    refine lv_istore (lv' := [(9, .int (0 : Int32)), (8, .int v45), (6, .long v41), (0, .ref (ad 12 0)), (1, .int x1), (2, .int x2), (3, .int x3), (4, .int x4), (5, .int i38)]) hx hb dX12_citings_215 hl (by decide) rfl (fun ls hl => ?_)
                                    refine lv_aload_n hx hb dX12_citings_217 rfl (lv_at hl 3 rfl) ?_
                                    refine lv_iload_n hx hb dX12_citings_218 rfl (lv_at hl 4 rfl) ?_
                                    refine lv_aload_n hx hb dX12_citings_219 rfl (lv_at hl 3 rfl) ?_
                                    refine gtX12_137 hx hb hts hown hK hW cz12 dX12_citings_220 ?_
                                    refine lv_iload hx hb dX12_citings_223 (lv_at hl 1 rfl) ?_
                                    obtain ⟨hj, h⟩ := ix_a h
                                    refine al91 hx hb hK hW cz91 hj dX12_citings_225 ?_
                                    refine lv_l2i hx hb dX12_citings_226 rfl ?_
                                    refine lv_iload hx hb dX12_citings_227 (lv_at hl 0 rfl) ?_
                                    refine lv_if_eq (tgt := 245) hx hb dX12_citings_229 (by decide) (fun _ => ?_) (fun hc => absurd hc (by decide))
                                    refine lv_iconst (v := (1 : Int32)) hx hb dX12_citings_245 (by decide) ?_
                                    refine lv_iload hx hb dX12_citings_246 (lv_at hl 0 rfl) ?_
                                    refine lv_if_eq (tgt := 264) hx hb dX12_citings_248 (by decide) (fun _ => ?_) (fun hc => absurd hc (by decide))
                                    refine lv_iconst (v := (2 : Int32)) hx hb dX12_citings_264 (by decide) ?_
                                    obtain ⟨b57, M58, hcb57, h⟩ := bE_a h
                                    refine tb_cVI hZk hx hb hml hown hts hK hZ hW hS [.int x1, .int ((mgL M39 9100 0 v45.toNatClampNeg).toInt32), .int (1 : Int32), .int (2 : Int32)] (mX12_addLine (l := l) hZk x1 ((mgL M39 9100 0 v45.toNatClampNeg).toInt32) (1 : Int32) (2 : Int32) M39 b57 M58 hcb57) pmX12_addLine tw1419 (Wd.recv hK hW (t := 12) (by decide) cz12 (C := RX12) (T := TX12) (N := 58) rfl) ⟨Nat.le_of_ble_eq_true rfl, Nat.le_of_ble_eq_true rfl⟩ rfl hl.1 (Nat.le_of_ble_eq_true rfl) ⟨Nat.le_refl _, Nat.le_refl _⟩ rfl dX12_citings_265 (fun H locs hW hS => ?_)
                                    refine lv_pop hx hb dX12_citings_268 rfl ?_
                                    refine lv_iload hx hb dX12_citings_269 (lv_at hl 0 rfl) ?_
                                    refine lv_if_ne (tgt := 279) hx hb dX12_citings_271 (by decide) (fun hc => absurd hc (by decide)) (fun _ => ?_)
                                    refine lv_iload hx hb dX12_citings_274 (lv_at hl 8 rfl) ?_
                                    refine lv_iconst (v := (1 : Int32)) hx hb dX12_citings_276 (by decide) ?_
                                    refine lv_iadd hx hb dX12_citings_277 ?_
                                    exact tb_iretE h hx hb hr hS hW hlk dX12_citings_278
                                  · have h := sh_f c56 h
                                    refine lv_iconst (v := (1 : Int32)) hx hb dX12_citings_210 (by decide) ?_
                                    refine lv_goto (tgt := 215) hx hb dX12_citings_211 (by decide) ?_
                                    refine lv_istore (lv' := [(9, .int (1 : Int32)), (8, .int v45), (6, .long v41), (0, .ref (ad 12 0)), (1, .int x1), (2, .int x2), (3, .int x3), (4, .int x4), (5, .int i38)]) hx hb dX12_citings_215 hl (by decide) rfl (fun ls hl => ?_)
                                    refine lv_aload_n hx hb dX12_citings_217 rfl (lv_at hl 3 rfl) ?_
                                    refine lv_iload_n hx hb dX12_citings_218 rfl (lv_at hl 4 rfl) ?_
                                    refine lv_aload_n hx hb dX12_citings_219 rfl (lv_at hl 3 rfl) ?_
                                    refine gtX12_137 hx hb hts hown hK hW cz12 dX12_citings_220 ?_
                                    refine lv_iload hx hb dX12_citings_223 (lv_at hl 1 rfl) ?_
                                    obtain ⟨hj, h⟩ := ix_a h
                                    refine al91 hx hb hK hW cz91 hj dX12_citings_225 ?_
                                    refine lv_l2i hx hb dX12_citings_226 rfl ?_
                                    refine lv_iload hx hb dX12_citings_227 (lv_at hl 0 rfl) ?_
                                    refine lv_if_eq (tgt := 245) hx hb dX12_citings_229 (by decide) (fun hc => absurd hc (by decide)) (fun _ => ?_)
                                    refine lv_aload_n hx hb dX12_citings_232 rfl (lv_at hl 3 rfl) ?_
                                    refine gtX12_137 hx hb hts hown hK hW cz12 dX12_citings_233 ?_
                                    refine lv_iload hx hb dX12_citings_236 (lv_at hl 1 rfl) ?_
                                    refine lv_iconst (v := (1 : Int32)) hx hb dX12_citings_238 (by decide) ?_
                                    refine lv_iadd hx hb dX12_citings_239 ?_
                                    obtain ⟨hj, h⟩ := ix_a h
                                    refine al91 hx hb hK hW cz91 hj dX12_citings_240 ?_
                                    refine lv_l2i hx hb dX12_citings_241 rfl ?_
                                    refine lv_goto (tgt := 246) hx hb dX12_citings_242 (by decide) ?_
                                    refine lv_iload hx hb dX12_citings_246 (lv_at hl 0 rfl) ?_
                                    refine lv_if_eq (tgt := 264) hx hb dX12_citings_248 (by decide) (fun hc => absurd hc (by decide)) (fun _ => ?_)
                                    refine lv_aload_n hx hb dX12_citings_251 rfl (lv_at hl 3 rfl) ?_
                                    refine gtX12_137 hx hb hts hown hK hW cz12 dX12_citings_252 ?_
                                    refine lv_iload hx hb dX12_citings_255 (lv_at hl 1 rfl) ?_
                                    refine lv_iconst (v := (2 : Int32)) hx hb dX12_citings_257 (by decide) ?_
                                    refine lv_iadd hx hb dX12_citings_258 ?_
                                    obtain ⟨hj, h⟩ := ix_a h
                                    refine al91 hx hb hK hW cz91 hj dX12_citings_259 ?_
                                    refine lv_l2i hx hb dX12_citings_260 rfl ?_
                                    refine lv_goto (tgt := 265) hx hb dX12_citings_261 (by decide) ?_
                                    obtain ⟨b59, M60, hcb59, h⟩ := bE_a h
                                    refine tb_cVI hZk hx hb hml hown hts hK hZ hW hS [.int x1, .int ((mgL M39 9100 0 v45.toNatClampNeg).toInt32), .int ((mgL M39 9100 0 (v45 + (1 : Int32)).toNatClampNeg).toInt32), .int ((mgL M39 9100 0 (v45 + (2 : Int32)).toNatClampNeg).toInt32)] (mX12_addLine (l := l) hZk x1 ((mgL M39 9100 0 v45.toNatClampNeg).toInt32) ((mgL M39 9100 0 (v45 + (1 : Int32)).toNatClampNeg).toInt32) ((mgL M39 9100 0 (v45 + (2 : Int32)).toNatClampNeg).toInt32) M39 b59 M60 hcb59) pmX12_addLine tw1419 (Wd.recv hK hW (t := 12) (by decide) cz12 (C := RX12) (T := TX12) (N := 58) rfl) ⟨Nat.le_of_ble_eq_true rfl, Nat.le_of_ble_eq_true rfl⟩ rfl hl.1 (Nat.le_of_ble_eq_true rfl) ⟨Nat.le_refl _, Nat.le_refl _⟩ rfl dX12_citings_265 (fun H locs hW hS => ?_)
                                    refine lv_pop hx hb dX12_citings_268 rfl ?_
                                    refine lv_iload hx hb dX12_citings_269 (lv_at hl 0 rfl) ?_
                                    refine lv_if_ne (tgt := 279) hx hb dX12_citings_271 (by decide) (fun _ => ?_) (fun hc => absurd hc (by decide))
                                    obtain ⟨v61, ev61⟩ : ∃ y : Int32, y = i38 + (1 : Int32) := ⟨_, rfl⟩
                                    have h := nm_a ev61 h
                                    refine lv_iinc (v := v61) (lv' := [(5, .int v61), (9, .int (1 : Int32)), (8, .int v45), (6, .long v41), (0, .ref (ad 12 0)), (1, .int x1), (2, .int x2), (3, .int x3), (4, .int x4)]) hx hb dX12_citings_279 hl (k := 8) rfl (by rw [ev61]; rfl) (by decide) rfl (fun ls hl => ?_)
                                    refine lv_goto (tgt := 77) hx hb dX12_citings_282 (by decide) ?_
                                    exact ih37 v61 M60 _ _ _ hW hS (lv_sub hl [4, 5, 6, 7, 8, 0] rfl) h
                            · have h := sh_t c47 h
                              refine lv_iload hx hb dX12_citings_153 (lv_at hl 7 rfl) ?_
                              exact tb_iretE h hx hb hr hS hW hlk dX12_citings_155
                          · have h := sh_t c44 h
                            refine lv_iload hx hb dX12_citings_124 (lv_at hl 6 rfl) ?_
                            exact tb_iretE h hx hb hr hS hW hlk dX12_citings_126
                exact L37 FU (0 : Int32) M0 _ _ _ hW hS (lv_sub hl [1, 2, 3, 4, 5, 0] rfl) h
              · have h := sh_t c36 h
                refine lv_iconst (v := (0 : Int32)) hx hb dX12_citings_72 (by decide) ?_
                exact tb_iretE h hx hb hr hS hW hlk dX12_citings_73
            · have h := sh_f c35 h
              refine lv_bipush (v := (-12 : Int32)) hx hb dX12_citings_59 (by decide) ?_
              exact tb_iretE h hx hb hr hS hW hlk dX12_citings_61
        · have h := sh_t c7 h
          refine lv_iconst (v := (-1 : Int32)) hx hb dX12_citings_36 (by decide) ?_
          exact tb_iretE h hx hb hr hS hW hlk dX12_citings_37
def fX12_findStanding_b154 (i7 : Int32) (k6 : Int32 → Mem → Option (Unit × Mem)) (k14 : Int32 → Mem → Option (Unit × Mem)) (i15 : Int32) (M16 : Mem) : Option (Unit × Mem) :=
  if (mgI M16 1212 0 0) ≤ i15 then (nm (i7 + (-1 : Int32)) fun v18 => k6 v18 M16) else (ix i15 200 <| if (mgI M16 5900 0 i15.toNatClampNeg) = i7 then (ix i15 200 <| if (mgI M16 6300 0 i15.toNatClampNeg) = 0 then (ix i15 200 <| ix (mgI M16 6000 0 i15.toNatClampNeg) 64 <| ix i7 64 <| if (mgI M16 6600 0 i7.toNatClampNeg) < (mgI M16 6600 0 (mgI M16 6000 0 i15.toNatClampNeg).toNatClampNeg) then (nm (i15 + (1 : Int32)) fun v24 => k14 v24 M16) else (ix i15 200 <| ix i7 64 <| nm ((mgI M16 6600 0 i7.toNatClampNeg) + (1 : Int32)) fun v25 => ix (mgI M16 6000 0 i15.toNatClampNeg) 64 <| nm (msI M16 6600 0 ((mgI M16 6000 0 i15.toNatClampNeg).toNatClampNeg) v25) fun M26 => nm (i15 + (1 : Int32)) fun v27 => k14 v27 M26)) else (nm (i15 + (1 : Int32)) fun v22 => k14 v22 M16)) else (nm (i15 + (1 : Int32)) fun v20 => k14 v20 M16))
def fX12_findStanding_l154 (i7 : Int32) (k6 : Int32 → Mem → Option (Unit × Mem)) : Nat → Int32 → Mem → Option (Unit × Mem)
  | 0, _, _ => none
  | n + 1, i15, M16 => fX12_findStanding_b154 i7 k6 (fX12_findStanding_l154 i7 k6 n) i15 M16
def fX12_findStanding_b114 (i7 : Int32) (k6 : Int32 → Mem → Option (Unit × Mem)) (k10 : Int32 → Mem → Option (Unit × Mem)) (i11 : Int32) (M12 : Mem) : Option (Unit × Mem) :=
  if i7 ≤ i11 then (fX12_findStanding_l154 i7 k6 FU (0 : Int32) M12) else (ix i7 64 <| if (lg_cmp (((mgL M12 6400 0 i7.toNatClampNeg) >>> (i11.toInt64 &&& 63)) &&& (1 : Int64)) (1 : Int64)) = 0 then (ix i11 64 <| nm ((mgL M12 6500 0 i11.toNatClampNeg) ||| ((1 : Int64) <<< (i7.toInt64 &&& 63))) fun v30 => ix i11 64 <| nm (msL M12 6500 0 i11.toNatClampNeg v30) fun M31 => nm (i11 + (1 : Int32)) fun v32 => k10 v32 M31) else (nm (i11 + (1 : Int32)) fun v29 => k10 v29 M12))
def fX12_findStanding_l114 (i7 : Int32) (k6 : Int32 → Mem → Option (Unit × Mem)) : Nat → Int32 → Mem → Option (Unit × Mem)
  | 0, _, _ => none
  | n + 1, i11, M12 => fX12_findStanding_b114 i7 k6 (fX12_findStanding_l114 i7 k6 n) i11 M12
def fX12_findStanding_b108 (k6 : Int32 → Mem → Option (Unit × Mem)) (i7 : Int32) (M8 : Mem) : Option (Unit × Mem) :=
  if i7 < 0 then (some ((), M8)) else (fX12_findStanding_l114 i7 k6 FU (0 : Int32) M8)
def fX12_findStanding_l108 : Nat → Int32 → Mem → Option (Unit × Mem)
  | 0, _, _ => none
  | n + 1, i7, M8 => fX12_findStanding_b108 (fX12_findStanding_l108 n) i7 M8
def fX12_findStanding_b33 (i2 : Int32) (k1 : Int32 → Mem → Option (Unit × Mem)) (k36 : Int32 → Mem → Option (Unit × Mem)) (i37 : Int32) (M38 : Mem) : Option (Unit × Mem) :=
  if (mgI M38 1212 0 0) ≤ i37 then (nm (i2 + (1 : Int32)) fun v40 => k1 v40 M38) else (ix i37 200 <| if (mgI M38 5900 0 i37.toNatClampNeg) = i2 then (ix i37 200 <| if (mgI M38 6300 0 i37.toNatClampNeg) = 0 then (ix i2 64 <| ix i37 200 <| ix (mgI M38 6000 0 i37.toNatClampNeg) 64 <| ix i37 200 <| nm ((mgL M38 6400 0 i2.toNatClampNeg) ||| ((mgL M38 6400 0 (mgI M38 6000 0 i37.toNatClampNeg).toNatClampNeg) ||| ((1 : Int64) <<< ((mgI M38 6000 0 i37.toNatClampNeg).toInt64 &&& 63)))) fun v45 => ix i2 64 <| nm (msL M38 6400 0 i2.toNatClampNeg v45) fun M46 => nm (i37 + (1 : Int32)) fun v47 => k36 v47 M46) else (nm (i37 + (1 : Int32)) fun v44 => k36 v44 M38)) else (nm (i37 + (1 : Int32)) fun v42 => k36 v42 M38))
def fX12_findStanding_l33 (i2 : Int32) (k1 : Int32 → Mem → Option (Unit × Mem)) : Nat → Int32 → Mem → Option (Unit × Mem)
  | 0, _, _ => none
  | n + 1, i37, M38 => fX12_findStanding_b33 i2 k1 (fX12_findStanding_l33 i2 k1 n) i37 M38
def fX12_findStanding_b2 (k1 : Int32 → Mem → Option (Unit × Mem)) (i2 : Int32) (M3 : Mem) : Option (Unit × Mem) :=
  if (mgI M3 1202 0 0) ≤ i2 then (nm ((mgI M3 1202 0 0) - (1 : Int32)) fun v5 => fX12_findStanding_l108 FU v5 M3) else (ix i2 64 <| nm (msL M3 6400 0 i2.toNatClampNeg (0 : Int64)) fun M33 => ix i2 64 <| nm (msL M33 6500 0 i2.toNatClampNeg (0 : Int64)) fun M34 => ix i2 64 <| nm (msI M34 6600 0 i2.toNatClampNeg (0 : Int32)) fun M35 => fX12_findStanding_l33 i2 k1 FU (0 : Int32) M35)
def fX12_findStanding_l2 : Nat → Int32 → Mem → Option (Unit × Mem)
  | 0, _, _ => none
  | n + 1, i2, M3 => fX12_findStanding_b2 (fX12_findStanding_l2 n) i2 M3
def fX12_findStanding (M0 : Mem) : Option (Unit × Mem) :=
  fX12_findStanding_l2 FU (0 : Int32) M0
set_option maxHeartbeats 4000000 in
set_option maxRecDepth 100000 in
theorem mX12_findStanding {l : Launch} {D : va_G} {cy : Nat → ClassId} {A : Nat → Prop} {Z : State → Heap → Prop} {ad : Nat → Nat → Nat} (hZk : ZOK A Z) (M0 : Mem) (r : Unit) (M' : Mem) (h : fX12_findStanding M0 = some (r, M')) : Met l yX12_findStanding (wt yX12_findStanding cX12_findStanding 3 none) (rm 0 0) (CPre D cy A Z cnM ad M0 [.ref (ad 12 0)]) (QV D cy A cnM ad r M') 0 0 A := by
  refine tb_start [.ref (ad 12 0)] [(0, .ref (ad 12 0))] RX12 rfl (by decide +kernel) (Nat.le_of_ble_eq_true rfl) rfl (fun p e s m args below meth c hx hb hr hml hown hts hlk hW hK hZ ls hl => ?_)
  have hS : va_S A s.heap s.heap [] := va_S.rf
  unfold fX12_findStanding at h
  refine lv_iconst (v := (0 : Int32)) hx hb dX12_findStanding_0 (by decide) ?_
  refine lv_istore_n (lv' := [(1, .int (0 : Int32)), (0, .ref (ad 12 0))]) hx hb dX12_findStanding_1 rfl hl (by decide) rfl (fun ls hl => ?_)
  have L1 : ∀ (n1 : Nat) (i2 : Int32) (M3 : Mem) (H : Heap) (locs : List Loc) (ls : Array Slot), Wd D cy A cnM ad M3 H → va_S A s.heap H locs → lv_has ls 3 [(0, .ref (ad 12 0)), (1, .int i2)] → fX12_findStanding_l2 n1 i2 M3 = some (r, M') → W p l e (rm 0 0) s m args below meth c H locs 0 0 (MQ below (QV D cy A cnM ad r M') args s 0 0 A) (F0 m 2 ls []) := by
    intro n1
    induction n1 with
    | zero => intro i2 M3 H locs ls hW hS hl h; cases h
    | succ n1 ih1 =>
      intro i2 M3 H locs ls hW hS hl h
      unfold fX12_findStanding_l2 fX12_findStanding_b2 at h
      refine lv_iload_n hx hb dX12_findStanding_2 rfl (lv_at hl 1 rfl) ?_
      refine lv_aload_n hx hb dX12_findStanding_3 rfl (lv_at hl 0 rfl) ?_
      refine gtX12_147 hx hb hts hown hK hW cz12 dX12_findStanding_4 ?_
      refine lv_icmp_ge (tgt := 101) hx hb dX12_findStanding_7 (by decide) (fun c4 => ?_) (fun c4 => ?_)
      · have h := sh_t c4 h
        refine lv_aload_n hx hb dX12_findStanding_101 rfl (lv_at hl 0 rfl) ?_
        refine gtX12_147 hx hb hts hown hK hW cz12 dX12_findStanding_102 ?_
        refine lv_iconst (v := (1 : Int32)) hx hb dX12_findStanding_105 (by decide) ?_
        refine lv_isub hx hb dX12_findStanding_106 ?_
        refine lv_topi (fun v5 ev5 => ?_)
        have h := nm_a ev5 h
        refine lv_istore_n (lv' := [(1, .int v5), (0, .ref (ad 12 0))]) hx hb dX12_findStanding_107 rfl hl (by decide) rfl (fun ls hl => ?_)
        have L6 : ∀ (n6 : Nat) (i7 : Int32) (M8 : Mem) (H : Heap) (locs : List Loc) (ls : Array Slot), Wd D cy A cnM ad M8 H → va_S A s.heap H locs → lv_has ls 3 [(0, .ref (ad 12 0)), (1, .int i7)] → fX12_findStanding_l108 n6 i7 M8 = some (r, M') → W p l e (rm 0 0) s m args below meth c H locs 0 0 (MQ below (QV D cy A cnM ad r M') args s 0 0 A) (F0 m 108 ls []) := by
          intro n6
          induction n6 with
          | zero => intro i7 M8 H locs ls hW hS hl h; cases h
          | succ n6 ih6 =>
            intro i7 M8 H locs ls hW hS hl h
            unfold fX12_findStanding_l108 fX12_findStanding_b108 at h
            refine lv_iload_n hx hb dX12_findStanding_108 rfl (lv_at hl 1 rfl) ?_
            refine lv_if_lt (tgt := 232) hx hb dX12_findStanding_109 (by decide) (fun c9 => ?_) (fun c9 => ?_)
            · have h := sh_t c9 h
              exact tb_vretE h hx hb hr hS hW hlk dX12_findStanding_232
            · have h := sh_f c9 h
              refine lv_iconst (v := (0 : Int32)) hx hb dX12_findStanding_112 (by decide) ?_
              refine lv_istore_n (lv' := [(2, .int (0 : Int32)), (0, .ref (ad 12 0)), (1, .int i7)]) hx hb dX12_findStanding_113 rfl hl (by decide) rfl (fun ls hl => ?_)
              have L10 : ∀ (n10 : Nat) (i11 : Int32) (M12 : Mem) (H : Heap) (locs : List Loc) (ls : Array Slot), Wd D cy A cnM ad M12 H → va_S A s.heap H locs → lv_has ls 3 [(0, .ref (ad 12 0)), (1, .int i7), (2, .int i11)] → fX12_findStanding_l114 i7 (fX12_findStanding_l108 n6) n10 i11 M12 = some (r, M') → W p l e (rm 0 0) s m args below meth c H locs 0 0 (MQ below (QV D cy A cnM ad r M') args s 0 0 A) (F0 m 114 ls []) := by
                intro n10
                induction n10 with
                | zero => intro i11 M12 H locs ls hW hS hl h; cases h
                | succ n10 ih10 =>
                  intro i11 M12 H locs ls hW hS hl h
                  unfold fX12_findStanding_l114 fX12_findStanding_b114 at h
                  refine lv_iload_n hx hb dX12_findStanding_114 rfl (lv_at hl 2 rfl) ?_
                  refine lv_iload_n hx hb dX12_findStanding_115 rfl (lv_at hl 1 rfl) ?_
                  refine lv_icmp_ge (tgt := 152) hx hb dX12_findStanding_116 (by decide) (fun c13 => ?_) (fun c13 => ?_)
                  · have h := sh_t c13 h
                    refine lv_iconst (v := (0 : Int32)) hx hb dX12_findStanding_152 (by decide) ?_
                    refine lv_istore_n (lv' := [(2, .int (0 : Int32)), (0, .ref (ad 12 0)), (1, .int i7)]) hx hb dX12_findStanding_153 rfl hl (by decide) rfl (fun ls hl => ?_)
                    have L14 : ∀ (n14 : Nat) (i15 : Int32) (M16 : Mem) (H : Heap) (locs : List Loc) (ls : Array Slot), Wd D cy A cnM ad M16 H → va_S A s.heap H locs → lv_has ls 3 [(0, .ref (ad 12 0)), (1, .int i7), (2, .int i15)] → fX12_findStanding_l154 i7 (fX12_findStanding_l108 n6) n14 i15 M16 = some (r, M') → W p l e (rm 0 0) s m args below meth c H locs 0 0 (MQ below (QV D cy A cnM ad r M') args s 0 0 A) (F0 m 154 ls []) := by
                      intro n14
                      induction n14 with
                      | zero => intro i15 M16 H locs ls hW hS hl h; cases h
                      | succ n14 ih14 =>
                        intro i15 M16 H locs ls hW hS hl h
                        unfold fX12_findStanding_l154 fX12_findStanding_b154 at h
                        refine lv_iload_n hx hb dX12_findStanding_154 rfl (lv_at hl 2 rfl) ?_
                        refine lv_aload_n hx hb dX12_findStanding_155 rfl (lv_at hl 0 rfl) ?_
                        refine gtX12_154 hx hb hts hown hK hW cz12 dX12_findStanding_156 ?_
                        refine lv_icmp_ge (tgt := 226) hx hb dX12_findStanding_159 (by decide) (fun c17 => ?_) (fun c17 => ?_)
                        · have h := sh_t c17 h
                          obtain ⟨v18, ev18⟩ : ∃ y : Int32, y = i7 + (-1 : Int32) := ⟨_, rfl⟩
                          have h := nm_a ev18 h
                          refine lv_iinc (v := v18) (lv' := [(1, .int v18), (0, .ref (ad 12 0)), (2, .int i15)]) hx hb dX12_findStanding_226 hl (k := 1) rfl (by rw [ev18]; rfl) (by decide) rfl (fun ls hl => ?_)
                          refine lv_goto (tgt := 108) hx hb dX12_findStanding_229 (by decide) ?_
                          exact ih6 v18 M16 _ _ _ hW hS (lv_sub hl [1, 0] rfl) h
                        · have h := sh_f c17 h
                          refine lv_aload_n hx hb dX12_findStanding_162 rfl (lv_at hl 0 rfl) ?_
                          refine gtX12_38 hx hb hts hown hK hW cz12 dX12_findStanding_163 ?_
                          refine lv_iload_n hx hb dX12_findStanding_166 rfl (lv_at hl 2 rfl) ?_
                          obtain ⟨hj, h⟩ := ix_a h
                          refine al59 hx hb hK hW cz59 hj dX12_findStanding_167 ?_
                          refine lv_iload_n hx hb dX12_findStanding_168 rfl (lv_at hl 1 rfl) ?_
                          refine lv_icmp_ne (tgt := 220) hx hb dX12_findStanding_169 (by decide) (fun c19 => ?_) (fun c19 => ?_)
                          · have h := sh_f c19 h
                            obtain ⟨v20, ev20⟩ : ∃ y : Int32, y = i15 + (1 : Int32) := ⟨_, rfl⟩
                            have h := nm_a ev20 h
                            refine lv_iinc (v := v20) (lv' := [(2, .int v20), (0, .ref (ad 12 0)), (1, .int i7)]) hx hb dX12_findStanding_220 hl (k := 2) rfl (by rw [ev20]; rfl) (by decide) rfl (fun ls hl => ?_)
                            refine lv_goto (tgt := 154) hx hb dX12_findStanding_223 (by decide) ?_
                            exact ih14 v20 M16 _ _ _ hW hS (lv_sub hl [1, 2, 0] rfl) h
                          · have h := sh_t c19 h
                            refine lv_aload_n hx hb dX12_findStanding_172 rfl (lv_at hl 0 rfl) ?_
                            refine gtX12_50 hx hb hts hown hK hW cz12 dX12_findStanding_173 ?_
                            refine lv_iload_n hx hb dX12_findStanding_176 rfl (lv_at hl 2 rfl) ?_
                            obtain ⟨hj, h⟩ := ix_a h
                            refine al63 hx hb hK hW cz63 hj dX12_findStanding_177 ?_
                            refine lv_if_ne (tgt := 220) hx hb dX12_findStanding_178 (by decide) (fun c21 => ?_) (fun c21 => ?_)
                            · have h := sh_f c21 h
                              obtain ⟨v22, ev22⟩ : ∃ y : Int32, y = i15 + (1 : Int32) := ⟨_, rfl⟩
                              have h := nm_a ev22 h
                              refine lv_iinc (v := v22) (lv' := [(2, .int v22), (0, .ref (ad 12 0)), (1, .int i7)]) hx hb dX12_findStanding_220 hl (k := 2) rfl (by rw [ev22]; rfl) (by decide) rfl (fun ls hl => ?_)
                              refine lv_goto (tgt := 154) hx hb dX12_findStanding_223 (by decide) ?_
                              exact ih14 v22 M16 _ _ _ hW hS (lv_sub hl [1, 2, 0] rfl) h
                            · have h := sh_t c21 h
                              refine lv_aload_n hx hb dX12_findStanding_181 rfl (lv_at hl 0 rfl) ?_
                              refine gtX12_60 hx hb hts hown hK hW cz12 dX12_findStanding_182 ?_
                              refine lv_aload_n hx hb dX12_findStanding_185 rfl (lv_at hl 0 rfl) ?_
                              refine gtX12_41 hx hb hts hown hK hW cz12 dX12_findStanding_186 ?_
                              refine lv_iload_n hx hb dX12_findStanding_189 rfl (lv_at hl 2 rfl) ?_
                              obtain ⟨hj, h⟩ := ix_a h
                              refine al60 hx hb hK hW cz60 hj dX12_findStanding_190 ?_
                              obtain ⟨hj, h⟩ := ix_a h
                              refine al66 hx hb hK hW cz66 hj dX12_findStanding_191 ?_
                              refine lv_aload_n hx hb dX12_findStanding_192 rfl (lv_at hl 0 rfl) ?_
                              refine gtX12_60 hx hb hts hown hK hW cz12 dX12_findStanding_193 ?_
                              refine lv_iload_n hx hb dX12_findStanding_196 rfl (lv_at hl 1 rfl) ?_
                              obtain ⟨hj, h⟩ := ix_a h
                              refine al66 hx hb hK hW cz66 hj dX12_findStanding_197 ?_
                              refine lv_icmp_gt (tgt := 220) hx hb dX12_findStanding_198 (by decide) (fun c23 => ?_) (fun c23 => ?_)
                              · have h := sh_t c23 h
                                obtain ⟨v24, ev24⟩ : ∃ y : Int32, y = i15 + (1 : Int32) := ⟨_, rfl⟩
                                have h := nm_a ev24 h
                                refine lv_iinc (v := v24) (lv' := [(2, .int v24), (0, .ref (ad 12 0)), (1, .int i7)]) hx hb dX12_findStanding_220 hl (k := 2) rfl (by rw [ev24]; rfl) (by decide) rfl (fun ls hl => ?_)
                                refine lv_goto (tgt := 154) hx hb dX12_findStanding_223 (by decide) ?_
                                exact ih14 v24 M16 _ _ _ hW hS (lv_sub hl [1, 2, 0] rfl) h
                              · have h := sh_f c23 h
                                refine lv_aload_n hx hb dX12_findStanding_201 rfl (lv_at hl 0 rfl) ?_
                                refine gtX12_60 hx hb hts hown hK hW cz12 dX12_findStanding_202 ?_
                                refine lv_aload_n hx hb dX12_findStanding_205 rfl (lv_at hl 0 rfl) ?_
                                refine gtX12_41 hx hb hts hown hK hW cz12 dX12_findStanding_206 ?_
                                refine lv_iload_n hx hb dX12_findStanding_209 rfl (lv_at hl 2 rfl) ?_
                                obtain ⟨hj, h⟩ := ix_a h
                                refine al60 hx hb hK hW cz60 hj dX12_findStanding_210 ?_
                                refine lv_aload_n hx hb dX12_findStanding_211 rfl (lv_at hl 0 rfl) ?_
                                refine gtX12_60 hx hb hts hown hK hW cz12 dX12_findStanding_212 ?_
                                refine lv_iload_n hx hb dX12_findStanding_215 rfl (lv_at hl 1 rfl) ?_
                                obtain ⟨hj, h⟩ := ix_a h
                                refine al66 hx hb hK hW cz66 hj dX12_findStanding_216 ?_
                                refine lv_iconst (v := (1 : Int32)) hx hb dX12_findStanding_217 (by decide) ?_
                                refine lv_iadd hx hb dX12_findStanding_218 ?_
                                refine lv_topi (fun v25 ev25 => ?_)
                                have h := nm_a ev25 h
                                obtain ⟨hj, h⟩ := ix_a h
                                refine as66 hx hb hK hW hS cz66 hj dX12_findStanding_219 (fun H locs hW hS => ?_)
                                obtain ⟨M26, eM26⟩ : ∃ y, y = msI M16 6600 0 ((mgI M16 6000 0 i15.toNatClampNeg).toNatClampNeg) v25 := ⟨_, rfl⟩
                                have h := nm_a eM26 h
                                rw [← eM26] at hW
                                obtain ⟨v27, ev27⟩ : ∃ y : Int32, y = i15 + (1 : Int32) := ⟨_, rfl⟩
                                have h := nm_a ev27 h
                                refine lv_iinc (v := v27) (lv' := [(2, .int v27), (0, .ref (ad 12 0)), (1, .int i7)]) hx hb dX12_findStanding_220 hl (k := 2) rfl (by rw [ev27]; rfl) (by decide) rfl (fun ls hl => ?_)
                                refine lv_goto (tgt := 154) hx hb dX12_findStanding_223 (by decide) ?_
                                exact ih14 v27 M26 _ _ _ hW hS (lv_sub hl [1, 2, 0] rfl) h
                    exact L14 FU (0 : Int32) M12 _ _ _ hW hS (lv_sub hl [1, 2, 0] rfl) h
                  · have h := sh_f c13 h
                    refine lv_aload_n hx hb dX12_findStanding_119 rfl (lv_at hl 0 rfl) ?_
                    refine gtX12_53 hx hb hts hown hK hW cz12 dX12_findStanding_120 ?_
                    refine lv_iload_n hx hb dX12_findStanding_123 rfl (lv_at hl 1 rfl) ?_
                    obtain ⟨hj, h⟩ := ix_a h
                    refine al64 hx hb hK hW cz64 hj dX12_findStanding_124 ?_
                    refine lv_iload_n hx hb dX12_findStanding_125 rfl (lv_at hl 2 rfl) ?_
                    refine lv_lshr hx hb dX12_findStanding_126 rfl ?_
                    refine lv_lconst (v := (1 : Int64)) hx hb dX12_findStanding_127 (by decide) ?_
                    refine lv_land hx hb dX12_findStanding_128 ?_
                    refine lv_lconst (v := (1 : Int64)) hx hb dX12_findStanding_129 (by decide) ?_
                    refine W.lcmp hx hb dX12_findStanding_130 ?_
                    refine lv_if_ne (tgt := 146) hx hb dX12_findStanding_131 (by decide) (fun c28 => ?_) (fun c28 => ?_)
                    · have h := sh_f c28 h
                      obtain ⟨v29, ev29⟩ : ∃ y : Int32, y = i11 + (1 : Int32) := ⟨_, rfl⟩
                      have h := nm_a ev29 h
                      refine lv_iinc (v := v29) (lv' := [(2, .int v29), (0, .ref (ad 12 0)), (1, .int i7)]) hx hb dX12_findStanding_146 hl (k := 2) rfl (by rw [ev29]; rfl) (by decide) rfl (fun ls hl => ?_)
                      refine lv_goto (tgt := 114) hx hb dX12_findStanding_149 (by decide) ?_
                      exact ih10 v29 M12 _ _ _ hW hS (lv_sub hl [1, 2, 0] rfl) h
                    · have h := sh_t c28 h
                      refine lv_aload_n hx hb dX12_findStanding_134 rfl (lv_at hl 0 rfl) ?_
                      refine gtX12_57 hx hb hts hown hK hW cz12 dX12_findStanding_135 ?_
                      refine lv_iload_n hx hb dX12_findStanding_138 rfl (lv_at hl 2 rfl) ?_
                      refine lv_dup2_11 hx hb dX12_findStanding_139 rfl rfl ?_
                      obtain ⟨hj, h⟩ := ix_a h
                      refine al65 hx hb hK hW cz65 hj dX12_findStanding_140 ?_
                      refine lv_lconst (v := (1 : Int64)) hx hb dX12_findStanding_141 (by decide) ?_
                      refine lv_iload_n hx hb dX12_findStanding_142 rfl (lv_at hl 1 rfl) ?_
                      refine lv_lshl hx hb dX12_findStanding_143 rfl ?_
                      refine lv_lor hx hb dX12_findStanding_144 ?_
                      refine lv_topl (fun v30 ev30 => ?_)
                      have h := nm_a ev30 h
                      obtain ⟨hj, h⟩ := ix_a h
                      refine as65 hx hb hK hW hS cz65 hj dX12_findStanding_145 (fun H locs hW hS => ?_)
                      obtain ⟨M31, eM31⟩ : ∃ y, y = msL M12 6500 0 i11.toNatClampNeg v30 := ⟨_, rfl⟩
                      have h := nm_a eM31 h
                      rw [← eM31] at hW
                      obtain ⟨v32, ev32⟩ : ∃ y : Int32, y = i11 + (1 : Int32) := ⟨_, rfl⟩
                      have h := nm_a ev32 h
                      refine lv_iinc (v := v32) (lv' := [(2, .int v32), (0, .ref (ad 12 0)), (1, .int i7)]) hx hb dX12_findStanding_146 hl (k := 2) rfl (by rw [ev32]; rfl) (by decide) rfl (fun ls hl => ?_)
                      refine lv_goto (tgt := 114) hx hb dX12_findStanding_149 (by decide) ?_
                      exact ih10 v32 M31 _ _ _ hW hS (lv_sub hl [1, 2, 0] rfl) h
              exact L10 FU (0 : Int32) M8 _ _ _ hW hS (lv_sub hl [1, 2, 0] rfl) h
        exact L6 FU v5 M3 _ _ _ hW hS (lv_sub hl [1, 0] rfl) h
      · have h := sh_f c4 h
        refine lv_aload_n hx hb dX12_findStanding_10 rfl (lv_at hl 0 rfl) ?_
        refine gtX12_53 hx hb hts hown hK hW cz12 dX12_findStanding_11 ?_
        refine lv_iload_n hx hb dX12_findStanding_14 rfl (lv_at hl 1 rfl) ?_
        refine lv_lconst (v := (0 : Int64)) hx hb dX12_findStanding_15 (by decide) ?_
        obtain ⟨hj, h⟩ := ix_a h
        refine as64 hx hb hK hW hS cz64 hj dX12_findStanding_16 (fun H locs hW hS => ?_)
        obtain ⟨M33, eM33⟩ : ∃ y, y = msL M3 6400 0 i2.toNatClampNeg (0 : Int64) := ⟨_, rfl⟩
        have h := nm_a eM33 h
        rw [← eM33] at hW
        refine lv_aload_n hx hb dX12_findStanding_17 rfl (lv_at hl 0 rfl) ?_
        refine gtX12_57 hx hb hts hown hK hW cz12 dX12_findStanding_18 ?_
        refine lv_iload_n hx hb dX12_findStanding_21 rfl (lv_at hl 1 rfl) ?_
        refine lv_lconst (v := (0 : Int64)) hx hb dX12_findStanding_22 (by decide) ?_
        obtain ⟨hj, h⟩ := ix_a h
        refine as65 hx hb hK hW hS cz65 hj dX12_findStanding_23 (fun H locs hW hS => ?_)
        obtain ⟨M34, eM34⟩ : ∃ y, y = msL M33 6500 0 i2.toNatClampNeg (0 : Int64) := ⟨_, rfl⟩
        have h := nm_a eM34 h
        rw [← eM34] at hW
        refine lv_aload_n hx hb dX12_findStanding_24 rfl (lv_at hl 0 rfl) ?_
        refine gtX12_60 hx hb hts hown hK hW cz12 dX12_findStanding_25 ?_
        refine lv_iload_n hx hb dX12_findStanding_28 rfl (lv_at hl 1 rfl) ?_
        refine lv_iconst (v := (0 : Int32)) hx hb dX12_findStanding_29 (by decide) ?_
        obtain ⟨hj, h⟩ := ix_a h
        refine as66 hx hb hK hW hS cz66 hj dX12_findStanding_30 (fun H locs hW hS => ?_)
        obtain ⟨M35, eM35⟩ : ∃ y, y = msI M34 6600 0 i2.toNatClampNeg (0 : Int32) := ⟨_, rfl⟩
        have h := nm_a eM35 h
        rw [← eM35] at hW
        refine lv_iconst (v := (0 : Int32)) hx hb dX12_findStanding_31 (by decide) ?_
        refine lv_istore_n (lv' := [(2, .int (0 : Int32)), (0, .ref (ad 12 0)), (1, .int i2)]) hx hb dX12_findStanding_32 rfl hl (by decide) rfl (fun ls hl => ?_)
        have L36 : ∀ (n36 : Nat) (i37 : Int32) (M38 : Mem) (H : Heap) (locs : List Loc) (ls : Array Slot), Wd D cy A cnM ad M38 H → va_S A s.heap H locs → lv_has ls 3 [(0, .ref (ad 12 0)), (1, .int i2), (2, .int i37)] → fX12_findStanding_l33 i2 (fX12_findStanding_l2 n1) n36 i37 M38 = some (r, M') → W p l e (rm 0 0) s m args below meth c H locs 0 0 (MQ below (QV D cy A cnM ad r M') args s 0 0 A) (F0 m 33 ls []) := by
          intro n36
          induction n36 with
          | zero => intro i37 M38 H locs ls hW hS hl h; cases h
          | succ n36 ih36 =>
            intro i37 M38 H locs ls hW hS hl h
            unfold fX12_findStanding_l33 fX12_findStanding_b33 at h
            refine lv_iload_n hx hb dX12_findStanding_33 rfl (lv_at hl 2 rfl) ?_
            refine lv_aload_n hx hb dX12_findStanding_34 rfl (lv_at hl 0 rfl) ?_
            refine gtX12_154 hx hb hts hown hK hW cz12 dX12_findStanding_35 ?_
            refine lv_icmp_ge (tgt := 95) hx hb dX12_findStanding_38 (by decide) (fun c39 => ?_) (fun c39 => ?_)
            · have h := sh_t c39 h
              obtain ⟨v40, ev40⟩ : ∃ y : Int32, y = i2 + (1 : Int32) := ⟨_, rfl⟩
              have h := nm_a ev40 h
              refine lv_iinc (v := v40) (lv' := [(1, .int v40), (0, .ref (ad 12 0)), (2, .int i37)]) hx hb dX12_findStanding_95 hl (k := 1) rfl (by rw [ev40]; rfl) (by decide) rfl (fun ls hl => ?_)
              refine lv_goto (tgt := 2) hx hb dX12_findStanding_98 (by decide) ?_
              exact ih1 v40 M38 _ _ _ hW hS (lv_sub hl [1, 0] rfl) h
            · have h := sh_f c39 h
              refine lv_aload_n hx hb dX12_findStanding_41 rfl (lv_at hl 0 rfl) ?_
              refine gtX12_38 hx hb hts hown hK hW cz12 dX12_findStanding_42 ?_
              refine lv_iload_n hx hb dX12_findStanding_45 rfl (lv_at hl 2 rfl) ?_
              obtain ⟨hj, h⟩ := ix_a h
              refine al59 hx hb hK hW cz59 hj dX12_findStanding_46 ?_
              refine lv_iload_n hx hb dX12_findStanding_47 rfl (lv_at hl 1 rfl) ?_
              refine lv_icmp_ne (tgt := 89) hx hb dX12_findStanding_48 (by decide) (fun c41 => ?_) (fun c41 => ?_)
              · have h := sh_f c41 h
                obtain ⟨v42, ev42⟩ : ∃ y : Int32, y = i37 + (1 : Int32) := ⟨_, rfl⟩
                have h := nm_a ev42 h
                refine lv_iinc (v := v42) (lv' := [(2, .int v42), (0, .ref (ad 12 0)), (1, .int i2)]) hx hb dX12_findStanding_89 hl (k := 2) rfl (by rw [ev42]; rfl) (by decide) rfl (fun ls hl => ?_)
                refine lv_goto (tgt := 33) hx hb dX12_findStanding_92 (by decide) ?_
                exact ih36 v42 M38 _ _ _ hW hS (lv_sub hl [1, 2, 0] rfl) h
              · have h := sh_t c41 h
                refine lv_aload_n hx hb dX12_findStanding_51 rfl (lv_at hl 0 rfl) ?_
                refine gtX12_50 hx hb hts hown hK hW cz12 dX12_findStanding_52 ?_
                refine lv_iload_n hx hb dX12_findStanding_55 rfl (lv_at hl 2 rfl) ?_
                obtain ⟨hj, h⟩ := ix_a h
                refine al63 hx hb hK hW cz63 hj dX12_findStanding_56 ?_
                refine lv_if_ne (tgt := 89) hx hb dX12_findStanding_57 (by decide) (fun c43 => ?_) (fun c43 => ?_)
                · have h := sh_f c43 h
                  obtain ⟨v44, ev44⟩ : ∃ y : Int32, y = i37 + (1 : Int32) := ⟨_, rfl⟩
                  have h := nm_a ev44 h
                  refine lv_iinc (v := v44) (lv' := [(2, .int v44), (0, .ref (ad 12 0)), (1, .int i2)]) hx hb dX12_findStanding_89 hl (k := 2) rfl (by rw [ev44]; rfl) (by decide) rfl (fun ls hl => ?_)
                  refine lv_goto (tgt := 33) hx hb dX12_findStanding_92 (by decide) ?_
                  exact ih36 v44 M38 _ _ _ hW hS (lv_sub hl [1, 2, 0] rfl) h
                · have h := sh_t c43 h
                  refine lv_aload_n hx hb dX12_findStanding_60 rfl (lv_at hl 0 rfl) ?_
                  refine gtX12_53 hx hb hts hown hK hW cz12 dX12_findStanding_61 ?_
                  refine lv_iload_n hx hb dX12_findStanding_64 rfl (lv_at hl 1 rfl) ?_
                  refine lv_dup2_11 hx hb dX12_findStanding_65 rfl rfl ?_
                  obtain ⟨hj, h⟩ := ix_a h
                  refine al64 hx hb hK hW cz64 hj dX12_findStanding_66 ?_
                  refine lv_aload_n hx hb dX12_findStanding_67 rfl (lv_at hl 0 rfl) ?_
                  refine gtX12_53 hx hb hts hown hK hW cz12 dX12_findStanding_68 ?_
                  refine lv_aload_n hx hb dX12_findStanding_71 rfl (lv_at hl 0 rfl) ?_
                  refine gtX12_41 hx hb hts hown hK hW cz12 dX12_findStanding_72 ?_
                  refine lv_iload_n hx hb dX12_findStanding_75 rfl (lv_at hl 2 rfl) ?_
                  obtain ⟨hj, h⟩ := ix_a h
                  refine al60 hx hb hK hW cz60 hj dX12_findStanding_76 ?_
                  obtain ⟨hj, h⟩ := ix_a h
                  refine al64 hx hb hK hW cz64 hj dX12_findStanding_77 ?_
                  refine lv_lconst (v := (1 : Int64)) hx hb dX12_findStanding_78 (by decide) ?_
                  refine lv_aload_n hx hb dX12_findStanding_79 rfl (lv_at hl 0 rfl) ?_
                  refine gtX12_41 hx hb hts hown hK hW cz12 dX12_findStanding_80 ?_
                  refine lv_iload_n hx hb dX12_findStanding_83 rfl (lv_at hl 2 rfl) ?_
                  obtain ⟨hj, h⟩ := ix_a h
                  refine al60 hx hb hK hW cz60 hj dX12_findStanding_84 ?_
                  refine lv_lshl hx hb dX12_findStanding_85 rfl ?_
                  refine lv_lor hx hb dX12_findStanding_86 ?_
                  refine lv_lor hx hb dX12_findStanding_87 ?_
                  refine lv_topl (fun v45 ev45 => ?_)
                  have h := nm_a ev45 h
                  obtain ⟨hj, h⟩ := ix_a h
                  refine as64 hx hb hK hW hS cz64 hj dX12_findStanding_88 (fun H locs hW hS => ?_)
                  obtain ⟨M46, eM46⟩ : ∃ y, y = msL M38 6400 0 i2.toNatClampNeg v45 := ⟨_, rfl⟩
                  have h := nm_a eM46 h
                  rw [← eM46] at hW
                  obtain ⟨v47, ev47⟩ : ∃ y : Int32, y = i37 + (1 : Int32) := ⟨_, rfl⟩
                  have h := nm_a ev47 h
                  refine lv_iinc (v := v47) (lv' := [(2, .int v47), (0, .ref (ad 12 0)), (1, .int i2)]) hx hb dX12_findStanding_89 hl (k := 2) rfl (by rw [ev47]; rfl) (by decide) rfl (fun ls hl => ?_)
                  refine lv_goto (tgt := 33) hx hb dX12_findStanding_92 (by decide) ?_
                  exact ih36 v47 M46 _ _ _ hW hS (lv_sub hl [1, 2, 0] rfl) h
        exact L36 FU (0 : Int32) M35 _ _ _ hW hS (lv_sub hl [1, 2, 0] rfl) h
  exact L1 FU (0 : Int32) M0 _ _ _ hW hS (lv_sub hl [1, 0] rfl) h
def fX12_isOn (x1 : Int32) (x2 : Int32) (M0 : Mem) : Option Int32 :=
  ix x1 64 <| if (lg_cmp (((mgL M0 6400 0 x1.toNatClampNeg) >>> (x2.toInt64 &&& 63)) &&& (1 : Int64)) (1 : Int64)) = 0 then (some (1 : Int32)) else (some (0 : Int32))
set_option maxHeartbeats 4000000 in
set_option maxRecDepth 100000 in
theorem mX12_isOn {l : Launch} {D : va_G} {cy : Nat → ClassId} {A : Nat → Prop} {Z : State → Heap → Prop} {ad : Nat → Nat → Nat} (hZk : ZOK A Z) (x1 : Int32) (x2 : Int32) (M0 : Mem) (r : Int32) (h : fX12_isOn x1 x2 M0 = some r) : Met l yX12_isOn (wt yX12_isOn cX12_isOn 3 (some .boolean)) (rm 0 0) (CPre D cy A Z cnM ad M0 [.ref (ad 12 0), .int x1, .int x2]) (QZ D cy A cnM ad r M0) 0 0 A := by
  refine tb_start [.ref (ad 12 0), .int x1, .int x2] [(0, .ref (ad 12 0)), (1, .int x1), (2, .int x2)] RX12 rfl (by decide +kernel) (Nat.le_of_ble_eq_true rfl) rfl (fun p e s m args below meth c hx hb hr hml hown hts hlk hW hK hZ ls hl => ?_)
  have hS : va_S A s.heap s.heap [] := va_S.rf
  unfold fX12_isOn at h
  refine lv_aload_n hx hb dX12_isOn_0 rfl (lv_at hl 0 rfl) ?_
  refine gtX12_53 hx hb hts hown hK hW cz12 dX12_isOn_1 ?_
  refine lv_iload_n hx hb dX12_isOn_4 rfl (lv_at hl 1 rfl) ?_
  obtain ⟨hj, h⟩ := ix_a h
  refine al64 hx hb hK hW cz64 hj dX12_isOn_5 ?_
  refine lv_iload_n hx hb dX12_isOn_6 rfl (lv_at hl 2 rfl) ?_
  refine lv_lshr hx hb dX12_isOn_7 rfl ?_
  refine lv_lconst (v := (1 : Int64)) hx hb dX12_isOn_8 (by decide) ?_
  refine lv_land hx hb dX12_isOn_9 ?_
  refine lv_lconst (v := (1 : Int64)) hx hb dX12_isOn_10 (by decide) ?_
  refine W.lcmp hx hb dX12_isOn_11 ?_
  refine lv_if_ne (tgt := 19) hx hb dX12_isOn_12 (by decide) (fun c1 => ?_) (fun c1 => ?_)
  · have h := sh_f c1 h
    refine lv_iconst (v := (0 : Int32)) hx hb dX12_isOn_19 (by decide) ?_
    exact tb_zretO h hx hb hr hS hW hlk (by decide) dX12_isOn_20
  · have h := sh_t c1 h
    refine lv_iconst (v := (1 : Int32)) hx hb dX12_isOn_15 (by decide) ?_
    refine lv_goto (tgt := 20) hx hb dX12_isOn_16 (by decide) ?_
    exact tb_zretO h hx hb hr hS hW hlk (by decide) dX12_isOn_20
def fX12_takenFirst_b4 (x1 : Int32) (M0 : Mem) (k1 : Int32 → Int32 → Option Int32) (i2 : Int32) (i3 : Int32) : Option Int32 :=
  if x1 ≤ i3 then (some i2) else (bd (fX12_isOn x1 i3 M0) fun b5 => if b5 = 0 then (nm (i3 + (1 : Int32)) fun v7 => k1 i2 v7) else (ix i3 64 <| if (mgI M0 5400 0 i3.toNatClampNeg) < 0 then (nm (i3 + (1 : Int32)) fun v9 => k1 i2 v9) else (if i2 < 0 then (ix i3 64 <| nm (mgI M0 5400 0 i3.toNatClampNeg) fun v11 => nm (i3 + (1 : Int32)) fun v12 => k1 v11 v12) else (ix i3 64 <| if i2 ≤ (mgI M0 5400 0 i3.toNatClampNeg) then (nm (i3 + (1 : Int32)) fun v14 => k1 i2 v14) else (ix i3 64 <| nm (mgI M0 5400 0 i3.toNatClampNeg) fun v15 => nm (i3 + (1 : Int32)) fun v16 => k1 v15 v16)))))
def fX12_takenFirst_l4 (x1 : Int32) (M0 : Mem) : Nat → Int32 → Int32 → Option Int32
  | 0, _, _ => none
  | n + 1, i2, i3 => fX12_takenFirst_b4 x1 M0 (fX12_takenFirst_l4 x1 M0 n) i2 i3
def fX12_takenFirst (x1 : Int32) (M0 : Mem) : Option Int32 :=
  fX12_takenFirst_l4 x1 M0 FU (-1 : Int32) (0 : Int32)
set_option maxHeartbeats 4000000 in
set_option maxRecDepth 100000 in
theorem mX12_takenFirst {l : Launch} {D : va_G} {cy : Nat → ClassId} {A : Nat → Prop} {Z : State → Heap → Prop} {ad : Nat → Nat → Nat} (hZk : ZOK A Z) (x1 : Int32) (M0 : Mem) (r : Int32) (h : fX12_takenFirst x1 M0 = some r) : Met l yX12_takenFirst (wt yX12_takenFirst cX12_takenFirst 4 (some .int)) (rm 1 22) (CPre D cy A Z cnM ad M0 [.ref (ad 12 0), .int x1]) (QI D cy A cnM ad r M0) 0 0 A := by
  refine tb_start [.ref (ad 12 0), .int x1] [(0, .ref (ad 12 0)), (1, .int x1)] RX12 rfl (by decide +kernel) (Nat.le_of_ble_eq_true rfl) rfl (fun p e s m args below meth c hx hb hr hml hown hts hlk hW hK hZ ls hl => ?_)
  have hS : va_S A s.heap s.heap [] := va_S.rf
  unfold fX12_takenFirst at h
  refine lv_iconst (v := (-1 : Int32)) hx hb dX12_takenFirst_0 (by decide) ?_
  refine lv_istore_n (lv' := [(2, .int (-1 : Int32)), (0, .ref (ad 12 0)), (1, .int x1)]) hx hb dX12_takenFirst_1 rfl hl (by decide) rfl (fun ls hl => ?_)
  refine lv_iconst (v := (0 : Int32)) hx hb dX12_takenFirst_2 (by decide) ?_
  refine lv_istore_n (lv' := [(3, .int (0 : Int32)), (2, .int (-1 : Int32)), (0, .ref (ad 12 0)), (1, .int x1)]) hx hb dX12_takenFirst_3 rfl hl (by decide) rfl (fun ls hl => ?_)
  have L1 : ∀ (n1 : Nat) (i2 : Int32) (i3 : Int32) (H : Heap) (locs : List Loc) (ls : Array Slot), Wd D cy A cnM ad M0 H → va_S A s.heap H locs → lv_has ls 4 [(0, .ref (ad 12 0)), (1, .int x1), (2, .int i2), (3, .int i3)] → fX12_takenFirst_l4 x1 M0 n1 i2 i3 = some r → W p l e (rm 1 22) s m args below meth c H locs 0 0 (MQ below (QI D cy A cnM ad r M0) args s 0 0 A) (F0 m 4 ls []) := by
    intro n1
    induction n1 with
    | zero => intro i2 i3 H locs ls hW hS hl h; cases h
    | succ n1 ih1 =>
      intro i2 i3 H locs ls hW hS hl h
      unfold fX12_takenFirst_l4 fX12_takenFirst_b4 at h
      refine lv_iload_n hx hb dX12_takenFirst_4 rfl (lv_at hl 3 rfl) ?_
      refine lv_iload_n hx hb dX12_takenFirst_5 rfl (lv_at hl 1 rfl) ?_
      refine lv_icmp_ge (tgt := 54) hx hb dX12_takenFirst_6 (by decide) (fun c4 => ?_) (fun c4 => ?_)
      · have h := sh_t c4 h
        refine lv_iload_n hx hb dX12_takenFirst_54 rfl (lv_at hl 2 rfl) ?_
        exact tb_iretO h hx hb hr hS hW hlk dX12_takenFirst_55
      · have h := sh_f c4 h
        refine lv_aload_n hx hb dX12_takenFirst_9 rfl (lv_at hl 0 rfl) ?_
        refine lv_iload_n hx hb dX12_takenFirst_10 rfl (lv_at hl 1 rfl) ?_
        refine lv_iload_n hx hb dX12_takenFirst_11 rfl (lv_at hl 3 rfl) ?_
        obtain ⟨b5, hcb5, h⟩ := bd_a h
        refine tb_cVZ hZk hx hb hml hown hts hK hZ hW hS [.int x1, .int i3] (mX12_isOn (l := l) hZk x1 i3 M0 b5 hcb5) pmX12_isOn tw1451 (Wd.recv hK hW (t := 12) (by decide) cz12 (C := RX12) (T := TX12) (N := 58) rfl) ⟨Nat.le_of_ble_eq_true rfl, Nat.le_of_ble_eq_true rfl⟩ rfl hl.1 (Nat.le_of_ble_eq_true rfl) ⟨Nat.le_refl _, Nat.le_refl _⟩ rfl dX12_takenFirst_12 (fun H locs hW hS hzz => ?_)
        have hzb5 := hzz
        refine lv_if_eq (tgt := 48) hx hb dX12_takenFirst_15 (by decide) (fun c6 => ?_) (fun c6 => ?_)
        · have h := sh_t c6 h
          obtain ⟨v7, ev7⟩ : ∃ y : Int32, y = i3 + (1 : Int32) := ⟨_, rfl⟩
          have h := nm_a ev7 h
          refine lv_iinc (v := v7) (lv' := [(3, .int v7), (0, .ref (ad 12 0)), (1, .int x1), (2, .int i2)]) hx hb dX12_takenFirst_48 hl (k := 3) rfl (by rw [ev7]; rfl) (by decide) rfl (fun ls hl => ?_)
          refine lv_goto (tgt := 4) hx hb dX12_takenFirst_51 (by decide) ?_
          exact ih1 i2 v7 _ _ _ hW hS (lv_sub hl [1, 2, 3, 0] rfl) h
        · have h := sh_f c6 h
          refine lv_aload_n hx hb dX12_takenFirst_18 rfl (lv_at hl 0 rfl) ?_
          refine gtX12_22 hx hb hts hown hK hW cz12 dX12_takenFirst_19 ?_
          refine lv_iload_n hx hb dX12_takenFirst_22 rfl (lv_at hl 3 rfl) ?_
          obtain ⟨hj, h⟩ := ix_a h
          refine al54 hx hb hK hW cz54 hj dX12_takenFirst_23 ?_
          refine lv_if_lt (tgt := 48) hx hb dX12_takenFirst_24 (by decide) (fun c8 => ?_) (fun c8 => ?_)
          · have h := sh_t c8 h
            obtain ⟨v9, ev9⟩ : ∃ y : Int32, y = i3 + (1 : Int32) := ⟨_, rfl⟩
            have h := nm_a ev9 h
            refine lv_iinc (v := v9) (lv' := [(3, .int v9), (0, .ref (ad 12 0)), (1, .int x1), (2, .int i2)]) hx hb dX12_takenFirst_48 hl (k := 3) rfl (by rw [ev9]; rfl) (by decide) rfl (fun ls hl => ?_)
            refine lv_goto (tgt := 4) hx hb dX12_takenFirst_51 (by decide) ?_
            exact ih1 i2 v9 _ _ _ hW hS (lv_sub hl [1, 2, 3, 0] rfl) h
          · have h := sh_f c8 h
            refine lv_iload_n hx hb dX12_takenFirst_27 rfl (lv_at hl 2 rfl) ?_
            refine lv_if_lt (tgt := 41) hx hb dX12_takenFirst_28 (by decide) (fun c10 => ?_) (fun c10 => ?_)
            · have h := sh_t c10 h
              refine lv_aload_n hx hb dX12_takenFirst_41 rfl (lv_at hl 0 rfl) ?_
              refine gtX12_22 hx hb hts hown hK hW cz12 dX12_takenFirst_42 ?_
              refine lv_iload_n hx hb dX12_takenFirst_45 rfl (lv_at hl 3 rfl) ?_
              obtain ⟨hj, h⟩ := ix_a h
              refine al54 hx hb hK hW cz54 hj dX12_takenFirst_46 ?_
              refine lv_topi (fun v11 ev11 => ?_)
              have h := nm_a ev11 h
              refine lv_istore_n (lv' := [(2, .int v11), (0, .ref (ad 12 0)), (1, .int x1), (3, .int i3)]) hx hb dX12_takenFirst_47 rfl hl (by decide) rfl (fun ls hl => ?_)
              obtain ⟨v12, ev12⟩ : ∃ y : Int32, y = i3 + (1 : Int32) := ⟨_, rfl⟩
              have h := nm_a ev12 h
              refine lv_iinc (v := v12) (lv' := [(3, .int v12), (2, .int v11), (0, .ref (ad 12 0)), (1, .int x1)]) hx hb dX12_takenFirst_48 hl (k := 3) rfl (by rw [ev12]; rfl) (by decide) rfl (fun ls hl => ?_)
              refine lv_goto (tgt := 4) hx hb dX12_takenFirst_51 (by decide) ?_
              exact ih1 v11 v12 _ _ _ hW hS (lv_sub hl [2, 3, 1, 0] rfl) h
            · have h := sh_f c10 h
              refine lv_aload_n hx hb dX12_takenFirst_31 rfl (lv_at hl 0 rfl) ?_
              refine gtX12_22 hx hb hts hown hK hW cz12 dX12_takenFirst_32 ?_
              refine lv_iload_n hx hb dX12_takenFirst_35 rfl (lv_at hl 3 rfl) ?_
              obtain ⟨hj, h⟩ := ix_a h
              refine al54 hx hb hK hW cz54 hj dX12_takenFirst_36 ?_
              refine lv_iload_n hx hb dX12_takenFirst_37 rfl (lv_at hl 2 rfl) ?_
              refine lv_icmp_ge (tgt := 48) hx hb dX12_takenFirst_38 (by decide) (fun c13 => ?_) (fun c13 => ?_)
              · have h := sh_t c13 h
                obtain ⟨v14, ev14⟩ : ∃ y : Int32, y = i3 + (1 : Int32) := ⟨_, rfl⟩
                have h := nm_a ev14 h
                refine lv_iinc (v := v14) (lv' := [(3, .int v14), (0, .ref (ad 12 0)), (1, .int x1), (2, .int i2)]) hx hb dX12_takenFirst_48 hl (k := 3) rfl (by rw [ev14]; rfl) (by decide) rfl (fun ls hl => ?_)
                refine lv_goto (tgt := 4) hx hb dX12_takenFirst_51 (by decide) ?_
                exact ih1 i2 v14 _ _ _ hW hS (lv_sub hl [1, 2, 3, 0] rfl) h
              · have h := sh_f c13 h
                refine lv_aload_n hx hb dX12_takenFirst_41 rfl (lv_at hl 0 rfl) ?_
                refine gtX12_22 hx hb hts hown hK hW cz12 dX12_takenFirst_42 ?_
                refine lv_iload_n hx hb dX12_takenFirst_45 rfl (lv_at hl 3 rfl) ?_
                obtain ⟨hj, h⟩ := ix_a h
                refine al54 hx hb hK hW cz54 hj dX12_takenFirst_46 ?_
                refine lv_topi (fun v15 ev15 => ?_)
                have h := nm_a ev15 h
                refine lv_istore_n (lv' := [(2, .int v15), (0, .ref (ad 12 0)), (1, .int x1), (3, .int i3)]) hx hb dX12_takenFirst_47 rfl hl (by decide) rfl (fun ls hl => ?_)
                obtain ⟨v16, ev16⟩ : ∃ y : Int32, y = i3 + (1 : Int32) := ⟨_, rfl⟩
                have h := nm_a ev16 h
                refine lv_iinc (v := v16) (lv' := [(3, .int v16), (2, .int v15), (0, .ref (ad 12 0)), (1, .int x1)]) hx hb dX12_takenFirst_48 hl (k := 3) rfl (by rw [ev16]; rfl) (by decide) rfl (fun ls hl => ?_)
                refine lv_goto (tgt := 4) hx hb dX12_takenFirst_51 (by decide) ?_
                exact ih1 v15 v16 _ _ _ hW hS (lv_sub hl [2, 3, 1, 0] rfl) h
  exact L1 FU (-1 : Int32) (0 : Int32) _ _ _ hW hS (lv_sub hl [2, 3, 1, 0] rfl) h
def fX12_isStill (x1 : Int32) (M0 : Mem) : Option Int32 :=
  ix x1 64 <| if (mgI M0 5000 0 x1.toNatClampNeg) = (5 : Int32) then (ix x1 64 <| if (mgI M0 5700 0 x1.toNatClampNeg) = 0 then (bd (fX12_takenFirst x1 M0) fun b3 => if b3 < 0 then (some (0 : Int32)) else (some (1 : Int32))) else (some (0 : Int32))) else (some (0 : Int32))
set_option maxHeartbeats 4000000 in
set_option maxRecDepth 100000 in
theorem mX12_isStill {l : Launch} {D : va_G} {cy : Nat → ClassId} {A : Nat → Prop} {Z : State → Heap → Prop} {ad : Nat → Nat → Nat} (hZk : ZOK A Z) (x1 : Int32) (M0 : Mem) (r : Int32) (h : fX12_isStill x1 M0 = some r) : Met l yX12_isStill (wt yX12_isStill cX12_isStill 2 (some .boolean)) (rm 2 45) (CPre D cy A Z cnM ad M0 [.ref (ad 12 0), .int x1]) (QZ D cy A cnM ad r M0) 0 0 A := by
  refine tb_start [.ref (ad 12 0), .int x1] [(0, .ref (ad 12 0)), (1, .int x1)] RX12 rfl (by decide +kernel) (Nat.le_of_ble_eq_true rfl) rfl (fun p e s m args below meth c hx hb hr hml hown hts hlk hW hK hZ ls hl => ?_)
  have hS : va_S A s.heap s.heap [] := va_S.rf
  unfold fX12_isStill at h
  refine lv_aload_n hx hb dX12_isStill_0 rfl (lv_at hl 0 rfl) ?_
  refine gtX12_7 hx hb hts hown hK hW cz12 dX12_isStill_1 ?_
  refine lv_iload_n hx hb dX12_isStill_4 rfl (lv_at hl 1 rfl) ?_
  obtain ⟨hj, h⟩ := ix_a h
  refine al50 hx hb hK hW cz50 hj dX12_isStill_5 ?_
  refine lv_iconst (v := (5 : Int32)) hx hb dX12_isStill_6 (by decide) ?_
  refine lv_icmp_ne (tgt := 31) hx hb dX12_isStill_7 (by decide) (fun c1 => ?_) (fun c1 => ?_)
  · have h := sh_f c1 h
    refine lv_iconst (v := (0 : Int32)) hx hb dX12_isStill_31 (by decide) ?_
    exact tb_zretO h hx hb hr hS hW hlk (by decide) dX12_isStill_32
  · have h := sh_t c1 h
    refine lv_aload_n hx hb dX12_isStill_10 rfl (lv_at hl 0 rfl) ?_
    refine gtX12_31 hx hb hts hown hK hW cz12 dX12_isStill_11 ?_
    refine lv_iload_n hx hb dX12_isStill_14 rfl (lv_at hl 1 rfl) ?_
    obtain ⟨hj, h⟩ := ix_a h
    refine al57 hx hb hK hW cz57 hj dX12_isStill_15 ?_
    refine lv_if_ne (tgt := 31) hx hb dX12_isStill_16 (by decide) (fun c2 => ?_) (fun c2 => ?_)
    · have h := sh_f c2 h
      refine lv_iconst (v := (0 : Int32)) hx hb dX12_isStill_31 (by decide) ?_
      exact tb_zretO h hx hb hr hS hW hlk (by decide) dX12_isStill_32
    · have h := sh_t c2 h
      refine lv_aload_n hx hb dX12_isStill_19 rfl (lv_at hl 0 rfl) ?_
      refine lv_iload_n hx hb dX12_isStill_20 rfl (lv_at hl 1 rfl) ?_
      obtain ⟨b3, hcb3, h⟩ := bd_a h
      refine tb_cVI hZk hx hb hml hown hts hK hZ hW hS [.int x1] (mX12_takenFirst (l := l) hZk x1 M0 b3 hcb3) pmX12_takenFirst tw1447 (Wd.recv hK hW (t := 12) (by decide) cz12 (C := RX12) (T := TX12) (N := 58) rfl) ⟨Nat.le_of_ble_eq_true rfl, Nat.le_of_ble_eq_true rfl⟩ rfl hl.1 (Nat.le_of_ble_eq_true rfl) ⟨Nat.le_refl _, Nat.le_refl _⟩ rfl dX12_isStill_21 (fun H locs hW hS => ?_)
      refine lv_if_lt (tgt := 31) hx hb dX12_isStill_24 (by decide) (fun c4 => ?_) (fun c4 => ?_)
      · have h := sh_t c4 h
        refine lv_iconst (v := (0 : Int32)) hx hb dX12_isStill_31 (by decide) ?_
        exact tb_zretO h hx hb hr hS hW hlk (by decide) dX12_isStill_32
      · have h := sh_f c4 h
        refine lv_iconst (v := (1 : Int32)) hx hb dX12_isStill_27 (by decide) ?_
        refine lv_goto (tgt := 32) hx hb dX12_isStill_28 (by decide) ?_
        exact tb_zretO h hx hb hr hS hW hlk (by decide) dX12_isStill_32
def fX12_kindNow (x1 : Int32) (M0 : Mem) : Option (Int32 × Mem) :=
  bE (fX12_findStanding M0) fun u1 M2 => bd (fX12_isStill x1 M2) fun b3 => if b3 = 0 then (ix x1 64 <| some (mgI M2 5000 0 x1.toNatClampNeg, M2)) else (some ((6 : Int32), M2))
set_option maxHeartbeats 4000000 in
set_option maxRecDepth 100000 in
theorem mX12_kindNow {l : Launch} {D : va_G} {cy : Nat → ClassId} {A : Nat → Prop} {Z : State → Heap → Prop} {ad : Nat → Nat → Nat} (hZk : ZOK A Z) (x1 : Int32) (M0 : Mem) (r : Int32) (M' : Mem) (h : fX12_kindNow x1 M0 = some (r, M')) : Met l yX12_kindNow (wt yX12_kindNow cX12_kindNow 2 (some .int)) (rm 3 66) (CPre D cy A Z cnM ad M0 [.ref (ad 12 0), .int x1]) (QI D cy A cnM ad r M') 0 0 A := by
  refine tb_start [.ref (ad 12 0), .int x1] [(0, .ref (ad 12 0)), (1, .int x1)] RX12 rfl (by decide +kernel) (Nat.le_of_ble_eq_true rfl) rfl (fun p e s m args below meth c hx hb hr hml hown hts hlk hW hK hZ ls hl => ?_)
  have hS : va_S A s.heap s.heap [] := va_S.rf
  unfold fX12_kindNow at h
  refine lv_aload_n hx hb dX12_kindNow_0 rfl (lv_at hl 0 rfl) ?_
  obtain ⟨u1, M2, hcu1, h⟩ := bE_a h
  refine tb_cVV hZk hx hb hml hown hts hK hZ hW hS [] (mX12_findStanding (l := l) hZk M0 u1 M2 hcu1) pmX12_findStanding tw1439 (Wd.recv hK hW (t := 12) (by decide) cz12 (C := RX12) (T := TX12) (N := 58) rfl) ⟨Nat.le_of_ble_eq_true rfl, Nat.le_of_ble_eq_true rfl⟩ rfl hl.1 (Nat.le_of_ble_eq_true rfl) ⟨Nat.le_refl _, Nat.le_refl _⟩ rfl dX12_kindNow_1 (fun H locs hW hS => ?_)
  refine lv_aload_n hx hb dX12_kindNow_4 rfl (lv_at hl 0 rfl) ?_
  refine lv_iload_n hx hb dX12_kindNow_5 rfl (lv_at hl 1 rfl) ?_
  obtain ⟨b3, hcb3, h⟩ := bd_a h
  refine tb_cVZ hZk hx hb hml hown hts hK hZ hW hS [.int x1] (mX12_isStill (l := l) hZk x1 M2 b3 hcb3) pmX12_isStill tw1443 (Wd.recv hK hW (t := 12) (by decide) cz12 (C := RX12) (T := TX12) (N := 58) rfl) ⟨Nat.le_of_ble_eq_true rfl, Nat.le_of_ble_eq_true rfl⟩ rfl hl.1 (Nat.le_of_ble_eq_true rfl) ⟨Nat.le_refl _, Nat.le_refl _⟩ rfl dX12_kindNow_6 (fun H locs hW hS hzz => ?_)
  have hzb3 := hzz
  refine lv_if_eq (tgt := 17) hx hb dX12_kindNow_9 (by decide) (fun c4 => ?_) (fun c4 => ?_)
  · have h := sh_t c4 h
    refine lv_aload_n hx hb dX12_kindNow_17 rfl (lv_at hl 0 rfl) ?_
    refine gtX12_7 hx hb hts hown hK hW cz12 dX12_kindNow_18 ?_
    refine lv_iload_n hx hb dX12_kindNow_21 rfl (lv_at hl 1 rfl) ?_
    obtain ⟨hj, h⟩ := ix_a h
    refine al50 hx hb hK hW cz50 hj dX12_kindNow_22 ?_
    exact tb_iretE h hx hb hr hS hW hlk dX12_kindNow_23
  · have h := sh_f c4 h
    refine lv_bipush (v := (6 : Int32)) hx hb dX12_kindNow_12 (by decide) ?_
    refine lv_goto (tgt := 23) hx hb dX12_kindNow_14 (by decide) ?_
    exact tb_iretE h hx hb hr hS hW hlk dX12_kindNow_23
def fX12_findOf_b8 (M0 : Mem) (x1 : Int32) (k1 : Int64 → Int64 → Int32 → Option (Unit × Mem)) (j2 : Int64) (j3 : Int64) (i4 : Int32) : Option (Unit × Mem) :=
  if (mgI M0 1212 0 0) ≤ i4 then (if (lg_cmp j2 (1000000000 : Int64)) ≤ 0 then (nm j2.toInt32 fun v7 => ix x1 64 <| nm (msI M0 6700 0 x1.toNatClampNeg v7) fun M8 => if (lg_cmp j2 (0 : Int64)) ≤ 0 then (ix x1 64 <| nm (msI M8 6900 0 x1.toNatClampNeg (vp_nar .boolean (0 : Int32))) fun M10 => if (lg_cmp j2 (0 : Int64)) ≤ 0 then (ix x1 64 <| nm (msI M10 6800 0 x1.toNatClampNeg (0 : Int32)) fun M12 => some ((), M12)) else (bd (fJ9_floorDiv_f86c9 j3 j2) fun g13 => nm g13.toInt32 fun v14 => ix x1 64 <| nm (msI M10 6800 0 x1.toNatClampNeg v14) fun M15 => some ((), M15))) else (ix x1 64 <| nm (msI M8 6900 0 x1.toNatClampNeg (vp_nar .boolean (1 : Int32))) fun M16 => if (lg_cmp j2 (0 : Int64)) ≤ 0 then (ix x1 64 <| nm (msI M16 6800 0 x1.toNatClampNeg (0 : Int32)) fun M18 => some ((), M18)) else (bd (fJ9_floorDiv_f86c9 j3 j2) fun g19 => nm g19.toInt32 fun v20 => ix x1 64 <| nm (msI M16 6800 0 x1.toNatClampNeg v20) fun M21 => some ((), M21)))) else (ix x1 64 <| nm (msI M0 6700 0 x1.toNatClampNeg (1000000000 : Int32)) fun M22 => if (lg_cmp j2 (0 : Int64)) ≤ 0 then (ix x1 64 <| nm (msI M22 6900 0 x1.toNatClampNeg (vp_nar .boolean (0 : Int32))) fun M24 => if (lg_cmp j2 (0 : Int64)) ≤ 0 then (ix x1 64 <| nm (msI M24 6800 0 x1.toNatClampNeg (0 : Int32)) fun M26 => some ((), M26)) else (bd (fJ9_floorDiv_f86c9 j3 j2) fun g27 => nm g27.toInt32 fun v28 => ix x1 64 <| nm (msI M24 6800 0 x1.toNatClampNeg v28) fun M29 => some ((), M29))) else (ix x1 64 <| nm (msI M22 6900 0 x1.toNatClampNeg (vp_nar .boolean (1 : Int32))) fun M30 => if (lg_cmp j2 (0 : Int64)) ≤ 0 then (ix x1 64 <| nm (msI M30 6800 0 x1.toNatClampNeg (0 : Int32)) fun M32 => some ((), M32)) else (bd (fJ9_floorDiv_f86c9 j3 j2) fun g33 => nm g33.toInt32 fun v34 => ix x1 64 <| nm (msI M30 6800 0 x1.toNatClampNeg v34) fun M35 => some ((), M35))))) else (ix i4 200 <| if (mgI M0 5900 0 i4.toNatClampNeg) = x1 then (ix i4 200 <| if (mgI M0 6300 0 i4.toNatClampNeg) = 0 then (ix i4 200 <| ix (mgI M0 6000 0 i4.toNatClampNeg) 64 <| ix i4 200 <| nm ((((mgI M0 6700 0 (mgI M0 6000 0 i4.toNatClampNeg).toNatClampNeg).toInt64) * ((mgI M0 6100 0 i4.toNatClampNeg).toInt64)) / (100 : Int64)) fun v39 => nm (j2 + v39) fun v40 => ix i4 200 <| if (mgI M0 6200 0 i4.toNatClampNeg) = (1 : Int32) then (ix i4 200 <| ix (mgI M0 6000 0 i4.toNatClampNeg) 64 <| nm (j3 + ((-v39) * ((mgI M0 6800 0 (mgI M0 6000 0 i4.toNatClampNeg).toNatClampNeg).toInt64))) fun v44 => nm (i4 + (1 : Int32)) fun v45 => k1 v40 v44 v45) else (ix i4 200 <| ix (mgI M0 6000 0 i4.toNatClampNeg) 64 <| nm (j3 + (v39 * ((mgI M0 6800 0 (mgI M0 6000 0 i4.toNatClampNeg).toNatClampNeg).toInt64))) fun v42 => nm (i4 + (1 : Int32)) fun v43 => k1 v40 v42 v43)) else (nm (i4 + (1 : Int32)) fun v46 => k1 j2 j3 v46)) else (nm (i4 + (1 : Int32)) fun v37 => k1 j2 j3 v37))
def fX12_findOf_l8 (M0 : Mem) (x1 : Int32) : Nat → Int64 → Int64 → Int32 → Option (Unit × Mem)
  | 0, _, _, _ => none
  | n + 1, j2, j3, i4 => fX12_findOf_b8 M0 x1 (fX12_findOf_l8 M0 x1 n) j2 j3 i4
def fX12_findOf (x1 : Int32) (M0 : Mem) : Option (Unit × Mem) :=
  fX12_findOf_l8 M0 x1 FU (0 : Int64) (0 : Int64) (0 : Int32)
set_option maxHeartbeats 4000000 in
set_option maxRecDepth 100000 in
theorem mX12_findOf {l : Launch} {D : va_G} {cy : Nat → ClassId} {A : Nat → Prop} {Z : State → Heap → Prop} {ad : Nat → Nat → Nat} (hZk : ZOK A Z) (x1 : Int32) (M0 : Mem) (r : Unit) (M' : Mem) (h : fX12_findOf x1 M0 = some (r, M')) : Met l yX12_findOf (wt yX12_findOf cX12_findOf 9 none) (rm 1 25) (CPre D cy A Z cnM ad M0 [.ref (ad 12 0), .int x1]) (QV D cy A cnM ad r M') 0 0 A := by
  refine tb_start [.ref (ad 12 0), .int x1] [(0, .ref (ad 12 0)), (1, .int x1)] RX12 rfl (by decide +kernel) (Nat.le_of_ble_eq_true rfl) rfl (fun p e s m args below meth c hx hb hr hml hown hts hlk hW hK hZ ls hl => ?_)
  have hS : va_S A s.heap s.heap [] := va_S.rf
  unfold fX12_findOf at h
  refine lv_lconst (v := (0 : Int64)) hx hb dX12_findOf_0 (by decide) ?_
  refine lv_lstore_n (lv' := [(2, .long (0 : Int64)), (0, .ref (ad 12 0)), (1, .int x1)]) hx hb dX12_findOf_1 rfl hl (by decide) rfl (fun ls hl => ?_)
  refine lv_lconst (v := (0 : Int64)) hx hb dX12_findOf_2 (by decide) ?_
  refine lv_lstore (lv' := [(4, .long (0 : Int64)), (2, .long (0 : Int64)), (0, .ref (ad 12 0)), (1, .int x1)]) hx hb dX12_findOf_3 hl (by decide) rfl (fun ls hl => ?_)
  refine lv_iconst (v := (0 : Int32)) hx hb dX12_findOf_5 (by decide) ?_
  refine lv_istore (lv' := [(6, .int (0 : Int32)), (4, .long (0 : Int64)), (2, .long (0 : Int64)), (0, .ref (ad 12 0)), (1, .int x1)]) hx hb dX12_findOf_6 hl (by decide) rfl (fun ls hl => ?_)
  have L1 : ∀ (n1 : Nat) (j2 : Int64) (j3 : Int64) (i4 : Int32) (H : Heap) (locs : List Loc) (ls : Array Slot), Wd D cy A cnM ad M0 H → va_S A s.heap H locs → lv_has ls 9 [(0, .ref (ad 12 0)), (1, .int x1), (2, .long j2), (4, .long j3), (6, .int i4)] → fX12_findOf_l8 M0 x1 n1 j2 j3 i4 = some (r, M') → W p l e (rm 1 25) s m args below meth c H locs 0 0 (MQ below (QV D cy A cnM ad r M') args s 0 0 A) (F0 m 8 ls []) := by
    intro n1
    induction n1 with
    | zero => intro j2 j3 i4 H locs ls hW hS hl h; cases h
    | succ n1 ih1 =>
      intro j2 j3 i4 H locs ls hW hS hl h
      unfold fX12_findOf_l8 fX12_findOf_b8 at h
      refine lv_iload hx hb dX12_findOf_8 (lv_at hl 4 rfl) ?_
      refine lv_aload_n hx hb dX12_findOf_10 rfl (lv_at hl 0 rfl) ?_
      refine gtX12_154 hx hb hts hown hK hW cz12 dX12_findOf_11 ?_
      refine lv_icmp_ge (tgt := 132) hx hb dX12_findOf_14 (by decide) (fun c5 => ?_) (fun c5 => ?_)
      · have h := sh_t c5 h
        refine lv_aload_n hx hb dX12_findOf_132 rfl (lv_at hl 0 rfl) ?_
        refine gtX12_63 hx hb hts hown hK hW cz12 dX12_findOf_133 ?_
        refine lv_iload_n hx hb dX12_findOf_136 rfl (lv_at hl 1 rfl) ?_
        refine lv_lload_n hx hb dX12_findOf_137 rfl (lv_at hl 2 rfl) ?_
        refine lv_ldc2 hx hb hown (hts _ tw1464) dX12_findOf_138 ?_
        refine W.lcmp hx hb dX12_findOf_141 ?_
        refine lv_if_le (tgt := 150) hx hb dX12_findOf_142 (by decide) (fun c6 => ?_) (fun c6 => ?_)
        · have h := sh_t c6 h
          refine lv_lload_n hx hb dX12_findOf_150 rfl (lv_at hl 2 rfl) ?_
          refine lv_l2i hx hb dX12_findOf_151 rfl ?_
          refine lv_topi (fun v7 ev7 => ?_)
          have h := nm_a ev7 h
          obtain ⟨hj, h⟩ := ix_a h
          refine as67 hx hb hK hW hS cz67 hj dX12_findOf_152 (fun H locs hW hS => ?_)
          obtain ⟨M8, eM8⟩ : ∃ y, y = msI M0 6700 0 x1.toNatClampNeg v7 := ⟨_, rfl⟩
          have h := nm_a eM8 h
          rw [← eM8] at hW
          refine lv_aload_n hx hb dX12_findOf_153 rfl (lv_at hl 0 rfl) ?_
          refine gtX12_69 hx hb hts hown hK hW cz12 dX12_findOf_154 ?_
          refine lv_iload_n hx hb dX12_findOf_157 rfl (lv_at hl 1 rfl) ?_
          refine lv_lload_n hx hb dX12_findOf_158 rfl (lv_at hl 2 rfl) ?_
          refine lv_lconst (v := (0 : Int64)) hx hb dX12_findOf_159 (by decide) ?_
          refine W.lcmp hx hb dX12_findOf_160 ?_
          refine lv_if_le (tgt := 168) hx hb dX12_findOf_161 (by decide) (fun c9 => ?_) (fun c9 => ?_)
          · have h := sh_t c9 h
            refine lv_iconst (v := (0 : Int32)) hx hb dX12_findOf_168 (by decide) ?_
            obtain ⟨hj, h⟩ := ix_a h
            refine as69 hx hb hK hW hS cz69 hj dX12_findOf_169 (fun H locs hW hS => ?_)
            obtain ⟨M10, eM10⟩ : ∃ y, y = msI M8 6900 0 x1.toNatClampNeg (vp_nar .boolean (0 : Int32)) := ⟨_, rfl⟩
            have h := nm_a eM10 h
            rw [← eM10] at hW
            refine lv_aload_n hx hb dX12_findOf_170 rfl (lv_at hl 0 rfl) ?_
            refine gtX12_66 hx hb hts hown hK hW cz12 dX12_findOf_171 ?_
            refine lv_iload_n hx hb dX12_findOf_174 rfl (lv_at hl 1 rfl) ?_
            refine lv_lload_n hx hb dX12_findOf_175 rfl (lv_at hl 2 rfl) ?_
            refine lv_lconst (v := (0 : Int64)) hx hb dX12_findOf_176 (by decide) ?_
            refine W.lcmp hx hb dX12_findOf_177 ?_
            refine lv_if_le (tgt := 191) hx hb dX12_findOf_178 (by decide) (fun c11 => ?_) (fun c11 => ?_)
            · have h := sh_t c11 h
              refine lv_iconst (v := (0 : Int32)) hx hb dX12_findOf_191 (by decide) ?_
              obtain ⟨hj, h⟩ := ix_a h
              refine as68 hx hb hK hW hS cz68 hj dX12_findOf_192 (fun H locs hW hS => ?_)
              obtain ⟨M12, eM12⟩ : ∃ y, y = msI M10 6800 0 x1.toNatClampNeg (0 : Int32) := ⟨_, rfl⟩
              have h := nm_a eM12 h
              rw [← eM12] at hW
              exact tb_vretE h hx hb hr hS hW hlk dX12_findOf_193
            · have h := sh_f c11 h
              refine lv_lload hx hb dX12_findOf_181 (lv_at hl 3 rfl) ?_
              refine lv_lload_n hx hb dX12_findOf_183 rfl (lv_at hl 2 rfl) ?_
              obtain ⟨g13, hcg13, h⟩ := bd_a h
              refine tb_cSL hZk hx hb hml hown hts hK hZ hW hS [.long j3, .long j2] (mJ9_floorDiv_f86c9 (l := l) hZk j3 j2 M10 g13 hcg13) pmJ9_floorDiv_f86c9 tw1466 ⟨Nat.le_of_ble_eq_true rfl, Nat.le_of_ble_eq_true rfl⟩ rfl hl.1 (Nat.le_of_ble_eq_true rfl) ⟨Nat.le_refl _, Nat.le_refl _⟩ rfl dX12_findOf_184 (fun H locs hW hS => ?_)
              refine lv_l2i hx hb dX12_findOf_187 rfl ?_
              refine lv_goto (tgt := 192) hx hb dX12_findOf_188 (by decide) ?_
              refine lv_topi (fun v14 ev14 => ?_)
              have h := nm_a ev14 h
              obtain ⟨hj, h⟩ := ix_a h
              refine as68 hx hb hK hW hS cz68 hj dX12_findOf_192 (fun H locs hW hS => ?_)
              obtain ⟨M15, eM15⟩ : ∃ y, y = msI M10 6800 0 x1.toNatClampNeg v14 := ⟨_, rfl⟩
              have h := nm_a eM15 h
              rw [← eM15] at hW
              exact tb_vretE h hx hb hr hS hW hlk dX12_findOf_193
          · have h := sh_f c9 h
            refine lv_iconst (v := (1 : Int32)) hx hb dX12_findOf_164 (by decide) ?_
            refine lv_goto (tgt := 169) hx hb dX12_findOf_165 (by decide) ?_
            obtain ⟨hj, h⟩ := ix_a h
            refine as69 hx hb hK hW hS cz69 hj dX12_findOf_169 (fun H locs hW hS => ?_)
            obtain ⟨M16, eM16⟩ : ∃ y, y = msI M8 6900 0 x1.toNatClampNeg (vp_nar .boolean (1 : Int32)) := ⟨_, rfl⟩
            have h := nm_a eM16 h
            rw [← eM16] at hW
            refine lv_aload_n hx hb dX12_findOf_170 rfl (lv_at hl 0 rfl) ?_
            refine gtX12_66 hx hb hts hown hK hW cz12 dX12_findOf_171 ?_
            refine lv_iload_n hx hb dX12_findOf_174 rfl (lv_at hl 1 rfl) ?_
            refine lv_lload_n hx hb dX12_findOf_175 rfl (lv_at hl 2 rfl) ?_
            refine lv_lconst (v := (0 : Int64)) hx hb dX12_findOf_176 (by decide) ?_
            refine W.lcmp hx hb dX12_findOf_177 ?_
            refine lv_if_le (tgt := 191) hx hb dX12_findOf_178 (by decide) (fun c17 => ?_) (fun c17 => ?_)
            · have h := sh_t c17 h
              refine lv_iconst (v := (0 : Int32)) hx hb dX12_findOf_191 (by decide) ?_
              obtain ⟨hj, h⟩ := ix_a h
              refine as68 hx hb hK hW hS cz68 hj dX12_findOf_192 (fun H locs hW hS => ?_)
              obtain ⟨M18, eM18⟩ : ∃ y, y = msI M16 6800 0 x1.toNatClampNeg (0 : Int32) := ⟨_, rfl⟩
              have h := nm_a eM18 h
              rw [← eM18] at hW
              exact tb_vretE h hx hb hr hS hW hlk dX12_findOf_193
            · have h := sh_f c17 h
              refine lv_lload hx hb dX12_findOf_181 (lv_at hl 3 rfl) ?_
              refine lv_lload_n hx hb dX12_findOf_183 rfl (lv_at hl 2 rfl) ?_
              obtain ⟨g19, hcg19, h⟩ := bd_a h
              refine tb_cSL hZk hx hb hml hown hts hK hZ hW hS [.long j3, .long j2] (mJ9_floorDiv_f86c9 (l := l) hZk j3 j2 M16 g19 hcg19) pmJ9_floorDiv_f86c9 tw1466 ⟨Nat.le_of_ble_eq_true rfl, Nat.le_of_ble_eq_true rfl⟩ rfl hl.1 (Nat.le_of_ble_eq_true rfl) ⟨Nat.le_refl _, Nat.le_refl _⟩ rfl dX12_findOf_184 (fun H locs hW hS => ?_)
              refine lv_l2i hx hb dX12_findOf_187 rfl ?_
              refine lv_goto (tgt := 192) hx hb dX12_findOf_188 (by decide) ?_
              refine lv_topi (fun v20 ev20 => ?_)
              have h := nm_a ev20 h
              obtain ⟨hj, h⟩ := ix_a h
              refine as68 hx hb hK hW hS cz68 hj dX12_findOf_192 (fun H locs hW hS => ?_)
              obtain ⟨M21, eM21⟩ : ∃ y, y = msI M16 6800 0 x1.toNatClampNeg v20 := ⟨_, rfl⟩
              have h := nm_a eM21 h
              rw [← eM21] at hW
              exact tb_vretE h hx hb hr hS hW hlk dX12_findOf_193
        · have h := sh_f c6 h
          refine lv_ldc hx hb hown (hts _ tw1465) dX12_findOf_145 ?_
          refine lv_goto (tgt := 152) hx hb dX12_findOf_147 (by decide) ?_
          obtain ⟨hj, h⟩ := ix_a h
          refine as67 hx hb hK hW hS cz67 hj dX12_findOf_152 (fun H locs hW hS => ?_)
          obtain ⟨M22, eM22⟩ : ∃ y, y = msI M0 6700 0 x1.toNatClampNeg (1000000000 : Int32) := ⟨_, rfl⟩
          have h := nm_a eM22 h
          rw [← eM22] at hW
          refine lv_aload_n hx hb dX12_findOf_153 rfl (lv_at hl 0 rfl) ?_
          refine gtX12_69 hx hb hts hown hK hW cz12 dX12_findOf_154 ?_
          refine lv_iload_n hx hb dX12_findOf_157 rfl (lv_at hl 1 rfl) ?_
          refine lv_lload_n hx hb dX12_findOf_158 rfl (lv_at hl 2 rfl) ?_
          refine lv_lconst (v := (0 : Int64)) hx hb dX12_findOf_159 (by decide) ?_
          refine W.lcmp hx hb dX12_findOf_160 ?_
          refine lv_if_le (tgt := 168) hx hb dX12_findOf_161 (by decide) (fun c23 => ?_) (fun c23 => ?_)
          · have h := sh_t c23 h
            refine lv_iconst (v := (0 : Int32)) hx hb dX12_findOf_168 (by decide) ?_
            obtain ⟨hj, h⟩ := ix_a h
            refine as69 hx hb hK hW hS cz69 hj dX12_findOf_169 (fun H locs hW hS => ?_)
            obtain ⟨M24, eM24⟩ : ∃ y, y = msI M22 6900 0 x1.toNatClampNeg (vp_nar .boolean (0 : Int32)) := ⟨_, rfl⟩
            have h := nm_a eM24 h
            rw [← eM24] at hW
            refine lv_aload_n hx hb dX12_findOf_170 rfl (lv_at hl 0 rfl) ?_
            refine gtX12_66 hx hb hts hown hK hW cz12 dX12_findOf_171 ?_
            refine lv_iload_n hx hb dX12_findOf_174 rfl (lv_at hl 1 rfl) ?_
            refine lv_lload_n hx hb dX12_findOf_175 rfl (lv_at hl 2 rfl) ?_
            refine lv_lconst (v := (0 : Int64)) hx hb dX12_findOf_176 (by decide) ?_
            refine W.lcmp hx hb dX12_findOf_177 ?_
            refine lv_if_le (tgt := 191) hx hb dX12_findOf_178 (by decide) (fun c25 => ?_) (fun c25 => ?_)
            · have h := sh_t c25 h
              refine lv_iconst (v := (0 : Int32)) hx hb dX12_findOf_191 (by decide) ?_
              obtain ⟨hj, h⟩ := ix_a h
              refine as68 hx hb hK hW hS cz68 hj dX12_findOf_192 (fun H locs hW hS => ?_)
              obtain ⟨M26, eM26⟩ : ∃ y, y = msI M24 6800 0 x1.toNatClampNeg (0 : Int32) := ⟨_, rfl⟩
              have h := nm_a eM26 h
              rw [← eM26] at hW
              exact tb_vretE h hx hb hr hS hW hlk dX12_findOf_193
            · have h := sh_f c25 h
              refine lv_lload hx hb dX12_findOf_181 (lv_at hl 3 rfl) ?_
              refine lv_lload_n hx hb dX12_findOf_183 rfl (lv_at hl 2 rfl) ?_
              obtain ⟨g27, hcg27, h⟩ := bd_a h
              refine tb_cSL hZk hx hb hml hown hts hK hZ hW hS [.long j3, .long j2] (mJ9_floorDiv_f86c9 (l := l) hZk j3 j2 M24 g27 hcg27) pmJ9_floorDiv_f86c9 tw1466 ⟨Nat.le_of_ble_eq_true rfl, Nat.le_of_ble_eq_true rfl⟩ rfl hl.1 (Nat.le_of_ble_eq_true rfl) ⟨Nat.le_refl _, Nat.le_refl _⟩ rfl dX12_findOf_184 (fun H locs hW hS => ?_)
              refine lv_l2i hx hb dX12_findOf_187 rfl ?_
              refine lv_goto (tgt := 192) hx hb dX12_findOf_188 (by decide) ?_
              refine lv_topi (fun v28 ev28 => ?_)
              have h := nm_a ev28 h
              obtain ⟨hj, h⟩ := ix_a h
              refine as68 hx hb hK hW hS cz68 hj dX12_findOf_192 (fun H locs hW hS => ?_)
              obtain ⟨M29, eM29⟩ : ∃ y, y = msI M24 6800 0 x1.toNatClampNeg v28 := ⟨_, rfl⟩
              have h := nm_a eM29 h
              rw [← eM29] at hW
              exact tb_vretE h hx hb hr hS hW hlk dX12_findOf_193
          · have h := sh_f c23 h
            refine lv_iconst (v := (1 : Int32)) hx hb dX12_findOf_164 (by decide) ?_
            refine lv_goto (tgt := 169) hx hb dX12_findOf_165 (by decide) ?_
            obtain ⟨hj, h⟩ := ix_a h
            refine as69 hx hb hK hW hS cz69 hj dX12_findOf_169 (fun H locs hW hS => ?_)
            obtain ⟨M30, eM30⟩ : ∃ y, y = msI M22 6900 0 x1.toNatClampNeg (vp_nar .boolean (1 : Int32)) := ⟨_, rfl⟩
            have h := nm_a eM30 h
            rw [← eM30] at hW
            refine lv_aload_n hx hb dX12_findOf_170 rfl (lv_at hl 0 rfl) ?_
            refine gtX12_66 hx hb hts hown hK hW cz12 dX12_findOf_171 ?_
            refine lv_iload_n hx hb dX12_findOf_174 rfl (lv_at hl 1 rfl) ?_
            refine lv_lload_n hx hb dX12_findOf_175 rfl (lv_at hl 2 rfl) ?_
            refine lv_lconst (v := (0 : Int64)) hx hb dX12_findOf_176 (by decide) ?_
            refine W.lcmp hx hb dX12_findOf_177 ?_
            refine lv_if_le (tgt := 191) hx hb dX12_findOf_178 (by decide) (fun c31 => ?_) (fun c31 => ?_)
            · have h := sh_t c31 h
              refine lv_iconst (v := (0 : Int32)) hx hb dX12_findOf_191 (by decide) ?_
              obtain ⟨hj, h⟩ := ix_a h
              refine as68 hx hb hK hW hS cz68 hj dX12_findOf_192 (fun H locs hW hS => ?_)
              obtain ⟨M32, eM32⟩ : ∃ y, y = msI M30 6800 0 x1.toNatClampNeg (0 : Int32) := ⟨_, rfl⟩
              have h := nm_a eM32 h
              rw [← eM32] at hW
              exact tb_vretE h hx hb hr hS hW hlk dX12_findOf_193
            · have h := sh_f c31 h
              refine lv_lload hx hb dX12_findOf_181 (lv_at hl 3 rfl) ?_
              refine lv_lload_n hx hb dX12_findOf_183 rfl (lv_at hl 2 rfl) ?_
              obtain ⟨g33, hcg33, h⟩ := bd_a h
              refine tb_cSL hZk hx hb hml hown hts hK hZ hW hS [.long j3, .long j2] (mJ9_floorDiv_f86c9 (l := l) hZk j3 j2 M30 g33 hcg33) pmJ9_floorDiv_f86c9 tw1466 ⟨Nat.le_of_ble_eq_true rfl, Nat.le_of_ble_eq_true rfl⟩ rfl hl.1 (Nat.le_of_ble_eq_true rfl) ⟨Nat.le_refl _, Nat.le_refl _⟩ rfl dX12_findOf_184 (fun H locs hW hS => ?_)
              refine lv_l2i hx hb dX12_findOf_187 rfl ?_
              refine lv_goto (tgt := 192) hx hb dX12_findOf_188 (by decide) ?_
              refine lv_topi (fun v34 ev34 => ?_)
              have h := nm_a ev34 h
              obtain ⟨hj, h⟩ := ix_a h
              refine as68 hx hb hK hW hS cz68 hj dX12_findOf_192 (fun H locs hW hS => ?_)
              obtain ⟨M35, eM35⟩ : ∃ y, y = msI M30 6800 0 x1.toNatClampNeg v34 := ⟨_, rfl⟩
              have h := nm_a eM35 h
              rw [← eM35] at hW
              exact tb_vretE h hx hb hr hS hW hlk dX12_findOf_193
      · have h := sh_f c5 h
        refine lv_aload_n hx hb dX12_findOf_17 rfl (lv_at hl 0 rfl) ?_
        refine gtX12_38 hx hb hts hown hK hW cz12 dX12_findOf_18 ?_
        refine lv_iload hx hb dX12_findOf_21 (lv_at hl 4 rfl) ?_
        obtain ⟨hj, h⟩ := ix_a h
        refine al59 hx hb hK hW cz59 hj dX12_findOf_23 ?_
        refine lv_iload_n hx hb dX12_findOf_24 rfl (lv_at hl 1 rfl) ?_
        refine lv_icmp_ne (tgt := 126) hx hb dX12_findOf_25 (by decide) (fun c36 => ?_) (fun c36 => ?_)
        · have h := sh_f c36 h
          obtain ⟨v37, ev37⟩ : ∃ y : Int32, y = i4 + (1 : Int32) := ⟨_, rfl⟩
          have h := nm_a ev37 h
          refine lv_iinc (v := v37) (lv' := [(6, .int v37), (0, .ref (ad 12 0)), (1, .int x1), (2, .long j2), (4, .long j3)]) hx hb dX12_findOf_126 hl (k := 4) rfl (by rw [ev37]; rfl) (by decide) rfl (fun ls hl => ?_)
          refine lv_goto (tgt := 8) hx hb dX12_findOf_129 (by decide) ?_
          exact ih1 j2 j3 v37 _ _ _ hW hS (lv_sub hl [1, 2, 3, 4, 0] rfl) h
        · have h := sh_t c36 h
          refine lv_aload_n hx hb dX12_findOf_28 rfl (lv_at hl 0 rfl) ?_
          refine gtX12_50 hx hb hts hown hK hW cz12 dX12_findOf_29 ?_
          refine lv_iload hx hb dX12_findOf_32 (lv_at hl 4 rfl) ?_
          obtain ⟨hj, h⟩ := ix_a h
          refine al63 hx hb hK hW cz63 hj dX12_findOf_34 ?_
          refine lv_if_eq (tgt := 41) hx hb dX12_findOf_35 (by decide) (fun c38 => ?_) (fun c38 => ?_)
          · have h := sh_t c38 h
            refine lv_aload_n hx hb dX12_findOf_41 rfl (lv_at hl 0 rfl) ?_
            refine gtX12_63 hx hb hts hown hK hW cz12 dX12_findOf_42 ?_
            refine lv_aload_n hx hb dX12_findOf_45 rfl (lv_at hl 0 rfl) ?_
            refine gtX12_41 hx hb hts hown hK hW cz12 dX12_findOf_46 ?_
            refine lv_iload hx hb dX12_findOf_49 (lv_at hl 4 rfl) ?_
            obtain ⟨hj, h⟩ := ix_a h
            refine al60 hx hb hK hW cz60 hj dX12_findOf_51 ?_
            obtain ⟨hj, h⟩ := ix_a h
            refine al67 hx hb hK hW cz67 hj dX12_findOf_52 ?_
            refine lv_i2l hx hb dX12_findOf_53 rfl ?_
            refine lv_aload_n hx hb dX12_findOf_54 rfl (lv_at hl 0 rfl) ?_
            refine gtX12_44 hx hb hts hown hK hW cz12 dX12_findOf_55 ?_
            refine lv_iload hx hb dX12_findOf_58 (lv_at hl 4 rfl) ?_
            obtain ⟨hj, h⟩ := ix_a h
            refine al61 hx hb hK hW cz61 hj dX12_findOf_60 ?_
            refine lv_i2l hx hb dX12_findOf_61 rfl ?_
            refine lv_lmul hx hb dX12_findOf_62 ?_
            refine lv_ldc2 hx hb hown (hts _ tw1463) dX12_findOf_63 ?_
            refine lv_ldiv hx hb dX12_findOf_66 (by decide) ?_
            refine lv_topl (fun v39 ev39 => ?_)
            have h := nm_a ev39 h
            refine lv_lstore (lv' := [(7, .long v39), (0, .ref (ad 12 0)), (1, .int x1), (2, .long j2), (4, .long j3), (6, .int i4)]) hx hb dX12_findOf_67 hl (by decide) rfl (fun ls hl => ?_)
            refine lv_lload_n hx hb dX12_findOf_69 rfl (lv_at hl 3 rfl) ?_
            refine lv_lload hx hb dX12_findOf_70 (lv_at hl 0 rfl) ?_
            refine lv_ladd hx hb dX12_findOf_72 ?_
            refine lv_topl (fun v40 ev40 => ?_)
            have h := nm_a ev40 h
            refine lv_lstore_n (lv' := [(2, .long v40), (7, .long v39), (0, .ref (ad 12 0)), (1, .int x1), (4, .long j3), (6, .int i4)]) hx hb dX12_findOf_73 rfl hl (by decide) rfl (fun ls hl => ?_)
            refine lv_lload hx hb dX12_findOf_74 (lv_at hl 4 rfl) ?_
            refine lv_aload_n hx hb dX12_findOf_76 rfl (lv_at hl 2 rfl) ?_
            refine gtX12_47 hx hb hts hown hK hW cz12 dX12_findOf_77 ?_
            refine lv_iload hx hb dX12_findOf_80 (lv_at hl 5 rfl) ?_
            obtain ⟨hj, h⟩ := ix_a h
            refine al62 hx hb hK hW cz62 hj dX12_findOf_82 ?_
            refine lv_iconst (v := (1 : Int32)) hx hb dX12_findOf_83 (by decide) ?_
            refine lv_icmp_ne (tgt := 107) hx hb dX12_findOf_84 (by decide) (fun c41 => ?_) (fun c41 => ?_)
            · have h := sh_f c41 h
              refine lv_lload hx hb dX12_findOf_107 (lv_at hl 1 rfl) ?_
              refine lv_aload_n hx hb dX12_findOf_109 rfl (lv_at hl 2 rfl) ?_
              refine gtX12_66 hx hb hts hown hK hW cz12 dX12_findOf_110 ?_
              refine lv_aload_n hx hb dX12_findOf_113 rfl (lv_at hl 2 rfl) ?_
              refine gtX12_41 hx hb hts hown hK hW cz12 dX12_findOf_114 ?_
              refine lv_iload hx hb dX12_findOf_117 (lv_at hl 5 rfl) ?_
              obtain ⟨hj, h⟩ := ix_a h
              refine al60 hx hb hK hW cz60 hj dX12_findOf_119 ?_
              obtain ⟨hj, h⟩ := ix_a h
              refine al68 hx hb hK hW cz68 hj dX12_findOf_120 ?_
              refine lv_i2l hx hb dX12_findOf_121 rfl ?_
              refine lv_lmul hx hb dX12_findOf_122 ?_
              refine lv_ladd hx hb dX12_findOf_123 ?_
              refine lv_topl (fun v42 ev42 => ?_)
              have h := nm_a ev42 h
              refine lv_lstore (lv' := [(4, .long v42), (2, .long v40), (7, .long v39), (0, .ref (ad 12 0)), (1, .int x1), (6, .int i4)]) hx hb dX12_findOf_124 hl (by decide) rfl (fun ls hl => ?_)
              obtain ⟨v43, ev43⟩ : ∃ y : Int32, y = i4 + (1 : Int32) := ⟨_, rfl⟩
              have h := nm_a ev43 h
              refine lv_iinc (v := v43) (lv' := [(6, .int v43), (4, .long v42), (2, .long v40), (7, .long v39), (0, .ref (ad 12 0)), (1, .int x1)]) hx hb dX12_findOf_126 hl (k := 5) rfl (by rw [ev43]; rfl) (by decide) rfl (fun ls hl => ?_)
              refine lv_goto (tgt := 8) hx hb dX12_findOf_129 (by decide) ?_
              exact ih1 v40 v42 v43 _ _ _ hW hS (lv_sub hl [4, 5, 2, 1, 0] rfl) h
            · have h := sh_t c41 h
              refine lv_lload hx hb dX12_findOf_87 (lv_at hl 1 rfl) ?_
              refine lv_lneg hx hb dX12_findOf_89 ?_
              refine lv_aload_n hx hb dX12_findOf_90 rfl (lv_at hl 2 rfl) ?_
              refine gtX12_66 hx hb hts hown hK hW cz12 dX12_findOf_91 ?_
              refine lv_aload_n hx hb dX12_findOf_94 rfl (lv_at hl 2 rfl) ?_
              refine gtX12_41 hx hb hts hown hK hW cz12 dX12_findOf_95 ?_
              refine lv_iload hx hb dX12_findOf_98 (lv_at hl 5 rfl) ?_
              obtain ⟨hj, h⟩ := ix_a h
              refine al60 hx hb hK hW cz60 hj dX12_findOf_100 ?_
              obtain ⟨hj, h⟩ := ix_a h
              refine al68 hx hb hK hW cz68 hj dX12_findOf_101 ?_
              refine lv_i2l hx hb dX12_findOf_102 rfl ?_
              refine lv_lmul hx hb dX12_findOf_103 ?_
              refine lv_goto (tgt := 123) hx hb dX12_findOf_104 (by decide) ?_
              refine lv_ladd hx hb dX12_findOf_123 ?_
              refine lv_topl (fun v44 ev44 => ?_)
              have h := nm_a ev44 h
              refine lv_lstore (lv' := [(4, .long v44), (2, .long v40), (7, .long v39), (0, .ref (ad 12 0)), (1, .int x1), (6, .int i4)]) hx hb dX12_findOf_124 hl (by decide) rfl (fun ls hl => ?_)
              obtain ⟨v45, ev45⟩ : ∃ y : Int32, y = i4 + (1 : Int32) := ⟨_, rfl⟩
              have h := nm_a ev45 h
              refine lv_iinc (v := v45) (lv' := [(6, .int v45), (4, .long v44), (2, .long v40), (7, .long v39), (0, .ref (ad 12 0)), (1, .int x1)]) hx hb dX12_findOf_126 hl (k := 5) rfl (by rw [ev45]; rfl) (by decide) rfl (fun ls hl => ?_)
              refine lv_goto (tgt := 8) hx hb dX12_findOf_129 (by decide) ?_
              exact ih1 v40 v44 v45 _ _ _ hW hS (lv_sub hl [4, 5, 2, 1, 0] rfl) h
          · have h := sh_f c38 h
            refine lv_goto (tgt := 126) hx hb dX12_findOf_38 (by decide) ?_
            obtain ⟨v46, ev46⟩ : ∃ y : Int32, y = i4 + (1 : Int32) := ⟨_, rfl⟩
            have h := nm_a ev46 h
            refine lv_iinc (v := v46) (lv' := [(6, .int v46), (0, .ref (ad 12 0)), (1, .int x1), (2, .long j2), (4, .long j3)]) hx hb dX12_findOf_126 hl (k := 4) rfl (by rw [ev46]; rfl) (by decide) rfl (fun ls hl => ?_)
            refine lv_goto (tgt := 8) hx hb dX12_findOf_129 (by decide) ?_
            exact ih1 j2 j3 v46 _ _ _ hW hS (lv_sub hl [1, 2, 3, 4, 0] rfl) h
  exact L1 FU (0 : Int64) (0 : Int64) (0 : Int32) _ _ _ hW hS (lv_sub hl [3, 4, 2, 1, 0] rfl) h
