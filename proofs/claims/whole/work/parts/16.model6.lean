def fX12_product_b4 (op : Mem → Option (Unit × Mem)) (k3 : Mem → Option (Unit × Mem)) (M4 : Mem) : Option (Unit × Mem) :=
  if 0 ≤ (mgI M4 1235 0 0) then (some ((), M4)) else (bd (fX12_look M4) fun b6 => if b6 = (42 : Int32) then (bd (fX12_look M4) fun b8 => nm ((mgI M4 1234 0 0) + (1 : Int32)) fun v9 => nm (msI M4 1234 0 0 v9) fun M10 => bE (op M10) fun u11 M12 => bE (fX12_lay b8 (0 : Int32) M12) fun u13 M14 => k3 M14) else (bd (fX12_look M4) fun b15 => if b15 = (47 : Int32) then (bd (fX12_look M4) fun b17 => nm ((mgI M4 1234 0 0) + (1 : Int32)) fun v18 => nm (msI M4 1234 0 0 v18) fun M19 => bE (op M19) fun u20 M21 => bE (fX12_lay b17 (0 : Int32) M21) fun u22 M23 => k3 M23) else (bd (fX12_look M4) fun b24 => if b24 = (37 : Int32) then (bd (fX12_look M4) fun b26 => nm ((mgI M4 1234 0 0) + (1 : Int32)) fun v27 => nm (msI M4 1234 0 0 v27) fun M28 => bE (op M28) fun u29 M30 => bE (fX12_lay b26 (0 : Int32) M30) fun u31 M32 => k3 M32) else (some ((), M4)))))
def fX12_product_l4 (op : Mem → Option (Unit × Mem)) : Nat → Mem → Option (Unit × Mem)
  | 0, _ => none
  | n + 1, M4 => fX12_product_b4 op (fX12_product_l4 op n) M4
def fX12_product (op : Mem → Option (Unit × Mem)) (M0 : Mem) : Option (Unit × Mem) :=
  bE (op M0) fun u1 M2 => fX12_product_l4 op FU M2
set_option maxHeartbeats 4000000 in
set_option maxRecDepth 100000 in
theorem mX12_product {l : Launch} {D : va_G} {cy : Nat → ClassId} {A : Nat → Prop} {Z : State → Heap → Prop} {ad : Nat → Nat → Nat} (hZk : ZOK A Z) (op : Mem → Option (Unit × Mem)) (M0 : Mem) (F L : Nat) (hop : ∀  (M0 : Mem) (r : Unit) (M' : Mem), op M0 = some (r, M') → Met l yX12_operand (wt yX12_operand cX12_operand 2 none) (rm (F) (L)) (CPre D cy A Z cnM ad M0 [.ref (ad 12 0)]) (QV D cy A cnM ad r M') 0 0 A) (r : Unit) (M' : Mem) (h : fX12_product op M0 = some (r, M')) : Met l yX12_product (wt yX12_product cX12_product 2 none) (rm (F + 1) (L + 22)) (CPre D cy A Z cnM ad M0 [.ref (ad 12 0)]) (QV D cy A cnM ad r M') 0 0 A := by
  refine tb_start [.ref (ad 12 0)] [(0, .ref (ad 12 0))] RX12 rfl (by decide +kernel) (Nat.le_of_ble_eq_true rfl) rfl (fun p e s m args below meth c hx hb hr hml hown hts hlk hW hK hZ ls hl => ?_)
  have hS : va_S A s.heap s.heap [] := va_S.rf
  unfold fX12_product at h
  refine lv_aload_n hx hb dX12_product_0 rfl (lv_at hl 0 rfl) ?_
  obtain ⟨u1, M2, hcu1, h⟩ := bE_a h
  refine tb_cVV hZk hx hb hml hown hts hK hZ hW hS [] (hop M0 u1 M2 hcu1) pmX12_operand tw1586 (Wd.recv hK hW (t := 12) (by decide) cz12 (C := RX12) (T := TX12) (N := 58) rfl) ⟨(show F + 0 + 1 ≤ F + 1 by omega), (show 8 + (2 + 11) + (L + 0) ≤ L + 22 by omega)⟩ rfl hl.1 (Nat.le_of_ble_eq_true rfl) ⟨Nat.le_refl _, Nat.le_refl _⟩ rfl dX12_product_1 (fun H locs hW hS => ?_)
  have L3 : ∀ (n3 : Nat) (M4 : Mem) (H : Heap) (locs : List Loc) (ls : Array Slot), Wd D cy A cnM ad M4 H → va_S A s.heap H locs → lv_has ls 2 [(0, .ref (ad 12 0))] → fX12_product_l4 op n3 M4 = some (r, M') → W p l e (rm (F + 1) (L + 22)) s m args below meth c H locs 0 0 (MQ below (QV D cy A cnM ad r M') args s 0 0 A) (F0 m 4 ls []) := by
    intro n3
    induction n3 with
    | zero => intro M4 H locs ls hW hS hl h; cases h
    | succ n3 ih3 =>
      intro M4 H locs ls hW hS hl h
      unfold fX12_product_l4 fX12_product_b4 at h
      refine lv_aload_n hx hb dX12_product_4 rfl (lv_at hl 0 rfl) ?_
      refine gtX12_262 hx hb hts hown hK hW cz12 dX12_product_5 ?_
      refine lv_if_ge (tgt := 66) hx hb dX12_product_8 (by decide) (fun c5 => ?_) (fun c5 => ?_)
      · have h := sh_t c5 h
        exact tb_vretE h hx hb hr hS hW hlk dX12_product_66
      · have h := sh_f c5 h
        refine lv_aload_n hx hb dX12_product_11 rfl (lv_at hl 0 rfl) ?_
        obtain ⟨b6, hcb6, h⟩ := bd_a h
        refine tb_cVI hZk hx hb hml hown hts hK hZ hW hS [] (mX12_look (l := l) hZk M4 b6 hcb6) pmX12_look tw1590 (Wd.recv hK hW (t := 12) (by decide) cz12 (C := RX12) (T := TX12) (N := 58) rfl) ⟨(show 0 + 1 ≤ F + 1 by omega), (show 8 + (1 + 11) + (0) ≤ L + 22 by omega)⟩ rfl hl.1 (Nat.le_of_ble_eq_true rfl) ⟨Nat.le_refl _, Nat.le_refl _⟩ rfl dX12_product_12 (fun H locs hW hS => ?_)
        refine lv_bipush (v := (42 : Int32)) hx hb dX12_product_15 (by decide) ?_
        refine lv_icmp_eq (tgt := 38) hx hb dX12_product_17 (by decide) (fun c7 => ?_) (fun c7 => ?_)
        · have h := sh_t c7 h
          refine lv_aload_n hx hb dX12_product_38 rfl (lv_at hl 0 rfl) ?_
          obtain ⟨b8, hcb8, h⟩ := bd_a h
          refine tb_cVI hZk hx hb hml hown hts hK hZ hW hS [] (mX12_look (l := l) hZk M4 b8 hcb8) pmX12_look tw1590 (Wd.recv hK hW (t := 12) (by decide) cz12 (C := RX12) (T := TX12) (N := 58) rfl) ⟨(show 0 + 1 ≤ F + 1 by omega), (show 8 + (1 + 11) + (0) ≤ L + 22 by omega)⟩ rfl hl.1 (Nat.le_of_ble_eq_true rfl) ⟨Nat.le_refl _, Nat.le_refl _⟩ rfl dX12_product_39 (fun H locs hW hS => ?_)
          refine lv_istore_n (lv' := [(1, .int b8), (0, .ref (ad 12 0))]) hx hb dX12_product_42 rfl hl (by decide) rfl (fun ls hl => ?_)
          refine lv_aload_n hx hb dX12_product_43 rfl (lv_at hl 1 rfl) ?_
          refine lv_dup hx hb dX12_product_44 rfl ?_
          refine gtX12_259 hx hb hts hown hK hW cz12 dX12_product_45 ?_
          refine lv_iconst (v := (1 : Int32)) hx hb dX12_product_48 (by decide) ?_
          refine lv_iadd hx hb dX12_product_49 ?_
          refine lv_topi (fun v9 ev9 => ?_)
          have h := nm_a ev9 h
          refine ptX12_259 hx hb hts hown hK hW hS cz12 dX12_product_50 (fun H locs hW hS => ?_)
          obtain ⟨M10, eM10⟩ : ∃ y, y = msI M4 1234 0 0 v9 := ⟨_, rfl⟩
          have h := nm_a eM10 h
          rw [← eM10] at hW
          refine lv_aload_n hx hb dX12_product_53 rfl (lv_at hl 1 rfl) ?_
          obtain ⟨u11, M12, hcu11, h⟩ := bE_a h
          refine tb_cVV hZk hx hb hml hown hts hK hZ hW hS [] (hop M10 u11 M12 hcu11) pmX12_operand tw1586 (Wd.recv hK hW (t := 12) (by decide) cz12 (C := RX12) (T := TX12) (N := 58) rfl) ⟨(show F + 0 + 1 ≤ F + 1 by omega), (show 8 + (2 + 11) + (L + 0) ≤ L + 22 by omega)⟩ rfl hl.1 (Nat.le_of_ble_eq_true rfl) ⟨Nat.le_refl _, Nat.le_refl _⟩ rfl dX12_product_54 (fun H locs hW hS => ?_)
          refine lv_aload_n hx hb dX12_product_57 rfl (lv_at hl 1 rfl) ?_
          refine lv_iload_n hx hb dX12_product_58 rfl (lv_at hl 0 rfl) ?_
          refine lv_iconst (v := (0 : Int32)) hx hb dX12_product_59 (by decide) ?_
          obtain ⟨u13, M14, hcu13, h⟩ := bE_a h
          refine tb_cVV hZk hx hb hml hown hts hK hZ hW hS [.int b8, .int (0 : Int32)] (mX12_lay (l := l) hZk b8 (0 : Int32) M12 u13 M14 hcu13) pmX12_lay tw1597 (Wd.recv hK hW (t := 12) (by decide) cz12 (C := RX12) (T := TX12) (N := 58) rfl) ⟨(show 0 + 1 ≤ F + 1 by omega), (show 8 + (3 + 11) + (0) ≤ L + 22 by omega)⟩ rfl hl.1 (Nat.le_of_ble_eq_true rfl) ⟨Nat.le_refl _, Nat.le_refl _⟩ rfl dX12_product_60 (fun H locs hW hS => ?_)
          refine lv_goto (tgt := 4) hx hb dX12_product_63 (by decide) ?_
          exact ih3 M14 _ _ _ hW hS (lv_sub hl [1] rfl) h
        · have h := sh_f c7 h
          refine lv_aload_n hx hb dX12_product_20 rfl (lv_at hl 0 rfl) ?_
          obtain ⟨b15, hcb15, h⟩ := bd_a h
          refine tb_cVI hZk hx hb hml hown hts hK hZ hW hS [] (mX12_look (l := l) hZk M4 b15 hcb15) pmX12_look tw1590 (Wd.recv hK hW (t := 12) (by decide) cz12 (C := RX12) (T := TX12) (N := 58) rfl) ⟨(show 0 + 1 ≤ F + 1 by omega), (show 8 + (1 + 11) + (0) ≤ L + 22 by omega)⟩ rfl hl.1 (Nat.le_of_ble_eq_true rfl) ⟨Nat.le_refl _, Nat.le_refl _⟩ rfl dX12_product_21 (fun H locs hW hS => ?_)
          refine lv_bipush (v := (47 : Int32)) hx hb dX12_product_24 (by decide) ?_
          refine lv_icmp_eq (tgt := 38) hx hb dX12_product_26 (by decide) (fun c16 => ?_) (fun c16 => ?_)
          · have h := sh_t c16 h
            refine lv_aload_n hx hb dX12_product_38 rfl (lv_at hl 0 rfl) ?_
            obtain ⟨b17, hcb17, h⟩ := bd_a h
            refine tb_cVI hZk hx hb hml hown hts hK hZ hW hS [] (mX12_look (l := l) hZk M4 b17 hcb17) pmX12_look tw1590 (Wd.recv hK hW (t := 12) (by decide) cz12 (C := RX12) (T := TX12) (N := 58) rfl) ⟨(show 0 + 1 ≤ F + 1 by omega), (show 8 + (1 + 11) + (0) ≤ L + 22 by omega)⟩ rfl hl.1 (Nat.le_of_ble_eq_true rfl) ⟨Nat.le_refl _, Nat.le_refl _⟩ rfl dX12_product_39 (fun H locs hW hS => ?_)
            refine lv_istore_n (lv' := [(1, .int b17), (0, .ref (ad 12 0))]) hx hb dX12_product_42 rfl hl (by decide) rfl (fun ls hl => ?_)
            refine lv_aload_n hx hb dX12_product_43 rfl (lv_at hl 1 rfl) ?_
            refine lv_dup hx hb dX12_product_44 rfl ?_
            refine gtX12_259 hx hb hts hown hK hW cz12 dX12_product_45 ?_
            refine lv_iconst (v := (1 : Int32)) hx hb dX12_product_48 (by decide) ?_
            refine lv_iadd hx hb dX12_product_49 ?_
            refine lv_topi (fun v18 ev18 => ?_)
            have h := nm_a ev18 h
            refine ptX12_259 hx hb hts hown hK hW hS cz12 dX12_product_50 (fun H locs hW hS => ?_)
            obtain ⟨M19, eM19⟩ : ∃ y, y = msI M4 1234 0 0 v18 := ⟨_, rfl⟩
            have h := nm_a eM19 h
            rw [← eM19] at hW
            refine lv_aload_n hx hb dX12_product_53 rfl (lv_at hl 1 rfl) ?_
            obtain ⟨u20, M21, hcu20, h⟩ := bE_a h
            refine tb_cVV hZk hx hb hml hown hts hK hZ hW hS [] (hop M19 u20 M21 hcu20) pmX12_operand tw1586 (Wd.recv hK hW (t := 12) (by decide) cz12 (C := RX12) (T := TX12) (N := 58) rfl) ⟨(show F + 0 + 1 ≤ F + 1 by omega), (show 8 + (2 + 11) + (L + 0) ≤ L + 22 by omega)⟩ rfl hl.1 (Nat.le_of_ble_eq_true rfl) ⟨Nat.le_refl _, Nat.le_refl _⟩ rfl dX12_product_54 (fun H locs hW hS => ?_)
            refine lv_aload_n hx hb dX12_product_57 rfl (lv_at hl 1 rfl) ?_
            refine lv_iload_n hx hb dX12_product_58 rfl (lv_at hl 0 rfl) ?_
            refine lv_iconst (v := (0 : Int32)) hx hb dX12_product_59 (by decide) ?_
            obtain ⟨u22, M23, hcu22, h⟩ := bE_a h
            refine tb_cVV hZk hx hb hml hown hts hK hZ hW hS [.int b17, .int (0 : Int32)] (mX12_lay (l := l) hZk b17 (0 : Int32) M21 u22 M23 hcu22) pmX12_lay tw1597 (Wd.recv hK hW (t := 12) (by decide) cz12 (C := RX12) (T := TX12) (N := 58) rfl) ⟨(show 0 + 1 ≤ F + 1 by omega), (show 8 + (3 + 11) + (0) ≤ L + 22 by omega)⟩ rfl hl.1 (Nat.le_of_ble_eq_true rfl) ⟨Nat.le_refl _, Nat.le_refl _⟩ rfl dX12_product_60 (fun H locs hW hS => ?_)
            refine lv_goto (tgt := 4) hx hb dX12_product_63 (by decide) ?_
            exact ih3 M23 _ _ _ hW hS (lv_sub hl [1] rfl) h
          · have h := sh_f c16 h
            refine lv_aload_n hx hb dX12_product_29 rfl (lv_at hl 0 rfl) ?_
            obtain ⟨b24, hcb24, h⟩ := bd_a h
            refine tb_cVI hZk hx hb hml hown hts hK hZ hW hS [] (mX12_look (l := l) hZk M4 b24 hcb24) pmX12_look tw1590 (Wd.recv hK hW (t := 12) (by decide) cz12 (C := RX12) (T := TX12) (N := 58) rfl) ⟨(show 0 + 1 ≤ F + 1 by omega), (show 8 + (1 + 11) + (0) ≤ L + 22 by omega)⟩ rfl hl.1 (Nat.le_of_ble_eq_true rfl) ⟨Nat.le_refl _, Nat.le_refl _⟩ rfl dX12_product_30 (fun H locs hW hS => ?_)
            refine lv_bipush (v := (37 : Int32)) hx hb dX12_product_33 (by decide) ?_
            refine lv_icmp_ne (tgt := 66) hx hb dX12_product_35 (by decide) (fun c25 => ?_) (fun c25 => ?_)
            · have h := sh_f c25 h
              exact tb_vretE h hx hb hr hS hW hlk dX12_product_66
            · have h := sh_t c25 h
              refine lv_aload_n hx hb dX12_product_38 rfl (lv_at hl 0 rfl) ?_
              obtain ⟨b26, hcb26, h⟩ := bd_a h
              refine tb_cVI hZk hx hb hml hown hts hK hZ hW hS [] (mX12_look (l := l) hZk M4 b26 hcb26) pmX12_look tw1590 (Wd.recv hK hW (t := 12) (by decide) cz12 (C := RX12) (T := TX12) (N := 58) rfl) ⟨(show 0 + 1 ≤ F + 1 by omega), (show 8 + (1 + 11) + (0) ≤ L + 22 by omega)⟩ rfl hl.1 (Nat.le_of_ble_eq_true rfl) ⟨Nat.le_refl _, Nat.le_refl _⟩ rfl dX12_product_39 (fun H locs hW hS => ?_)
              refine lv_istore_n (lv' := [(1, .int b26), (0, .ref (ad 12 0))]) hx hb dX12_product_42 rfl hl (by decide) rfl (fun ls hl => ?_)
              refine lv_aload_n hx hb dX12_product_43 rfl (lv_at hl 1 rfl) ?_
              refine lv_dup hx hb dX12_product_44 rfl ?_
              refine gtX12_259 hx hb hts hown hK hW cz12 dX12_product_45 ?_
              refine lv_iconst (v := (1 : Int32)) hx hb dX12_product_48 (by decide) ?_
              refine lv_iadd hx hb dX12_product_49 ?_
              refine lv_topi (fun v27 ev27 => ?_)
              have h := nm_a ev27 h
              refine ptX12_259 hx hb hts hown hK hW hS cz12 dX12_product_50 (fun H locs hW hS => ?_)
              obtain ⟨M28, eM28⟩ : ∃ y, y = msI M4 1234 0 0 v27 := ⟨_, rfl⟩
              have h := nm_a eM28 h
              rw [← eM28] at hW
              refine lv_aload_n hx hb dX12_product_53 rfl (lv_at hl 1 rfl) ?_
              obtain ⟨u29, M30, hcu29, h⟩ := bE_a h
              refine tb_cVV hZk hx hb hml hown hts hK hZ hW hS [] (hop M28 u29 M30 hcu29) pmX12_operand tw1586 (Wd.recv hK hW (t := 12) (by decide) cz12 (C := RX12) (T := TX12) (N := 58) rfl) ⟨(show F + 0 + 1 ≤ F + 1 by omega), (show 8 + (2 + 11) + (L + 0) ≤ L + 22 by omega)⟩ rfl hl.1 (Nat.le_of_ble_eq_true rfl) ⟨Nat.le_refl _, Nat.le_refl _⟩ rfl dX12_product_54 (fun H locs hW hS => ?_)
              refine lv_aload_n hx hb dX12_product_57 rfl (lv_at hl 1 rfl) ?_
              refine lv_iload_n hx hb dX12_product_58 rfl (lv_at hl 0 rfl) ?_
              refine lv_iconst (v := (0 : Int32)) hx hb dX12_product_59 (by decide) ?_
              obtain ⟨u31, M32, hcu31, h⟩ := bE_a h
              refine tb_cVV hZk hx hb hml hown hts hK hZ hW hS [.int b26, .int (0 : Int32)] (mX12_lay (l := l) hZk b26 (0 : Int32) M30 u31 M32 hcu31) pmX12_lay tw1597 (Wd.recv hK hW (t := 12) (by decide) cz12 (C := RX12) (T := TX12) (N := 58) rfl) ⟨(show 0 + 1 ≤ F + 1 by omega), (show 8 + (3 + 11) + (0) ≤ L + 22 by omega)⟩ rfl hl.1 (Nat.le_of_ble_eq_true rfl) ⟨Nat.le_refl _, Nat.le_refl _⟩ rfl dX12_product_60 (fun H locs hW hS => ?_)
              refine lv_goto (tgt := 4) hx hb dX12_product_63 (by decide) ?_
              exact ih3 M32 _ _ _ hW hS (lv_sub hl [1] rfl) h
  exact L3 FU M2 _ _ _ hW hS (lv_sub hl [0] rfl) h
def fX12_sum_b4 (op : Mem → Option (Unit × Mem)) (k3 : Mem → Option (Unit × Mem)) (M4 : Mem) : Option (Unit × Mem) :=
  if 0 ≤ (mgI M4 1235 0 0) then (some ((), M4)) else (bd (fX12_look M4) fun b6 => if b6 = (43 : Int32) then (bd (fX12_look M4) fun b8 => nm ((mgI M4 1234 0 0) + (1 : Int32)) fun v9 => nm (msI M4 1234 0 0 v9) fun M10 => bE (fX12_product op M10) fun u11 M12 => bE (fX12_lay b8 (0 : Int32) M12) fun u13 M14 => k3 M14) else (bd (fX12_look M4) fun b15 => if b15 = (45 : Int32) then (bd (fX12_look M4) fun b17 => nm ((mgI M4 1234 0 0) + (1 : Int32)) fun v18 => nm (msI M4 1234 0 0 v18) fun M19 => bE (fX12_product op M19) fun u20 M21 => bE (fX12_lay b17 (0 : Int32) M21) fun u22 M23 => k3 M23) else (some ((), M4))))
def fX12_sum_l4 (op : Mem → Option (Unit × Mem)) : Nat → Mem → Option (Unit × Mem)
  | 0, _ => none
  | n + 1, M4 => fX12_sum_b4 op (fX12_sum_l4 op n) M4
def fX12_sum (op : Mem → Option (Unit × Mem)) (M0 : Mem) : Option (Unit × Mem) :=
  bE (fX12_product op M0) fun u1 M2 => fX12_sum_l4 op FU M2
set_option maxHeartbeats 4000000 in
set_option maxRecDepth 100000 in
theorem mX12_sum {l : Launch} {D : va_G} {cy : Nat → ClassId} {A : Nat → Prop} {Z : State → Heap → Prop} {ad : Nat → Nat → Nat} (hZk : ZOK A Z) (op : Mem → Option (Unit × Mem)) (M0 : Mem) (F L : Nat) (hop : ∀  (M0 : Mem) (r : Unit) (M' : Mem), op M0 = some (r, M') → Met l yX12_operand (wt yX12_operand cX12_operand 2 none) (rm (F) (L)) (CPre D cy A Z cnM ad M0 [.ref (ad 12 0)]) (QV D cy A cnM ad r M') 0 0 A) (r : Unit) (M' : Mem) (h : fX12_sum op M0 = some (r, M')) : Met l yX12_sum (wt yX12_sum cX12_sum 2 none) (rm (F + 2) (L + 43)) (CPre D cy A Z cnM ad M0 [.ref (ad 12 0)]) (QV D cy A cnM ad r M') 0 0 A := by
  refine tb_start [.ref (ad 12 0)] [(0, .ref (ad 12 0))] RX12 rfl (by decide +kernel) (Nat.le_of_ble_eq_true rfl) rfl (fun p e s m args below meth c hx hb hr hml hown hts hlk hW hK hZ ls hl => ?_)
  have hS : va_S A s.heap s.heap [] := va_S.rf
  unfold fX12_sum at h
  refine lv_aload_n hx hb dX12_sum_0 rfl (lv_at hl 0 rfl) ?_
  obtain ⟨u1, M2, hcu1, h⟩ := bE_a h
  refine tb_cVV hZk hx hb hml hown hts hK hZ hW hS [] (mX12_product (l := l) hZk op M0 F L hop u1 M2 hcu1) pmX12_product tw1582 (Wd.recv hK hW (t := 12) (by decide) cz12 (C := RX12) (T := TX12) (N := 58) rfl) ⟨(show F + 1 + 1 ≤ F + 2 by omega), (show 8 + (2 + 11) + (L + 22) ≤ L + 43 by omega)⟩ rfl hl.1 (Nat.le_of_ble_eq_true rfl) ⟨Nat.le_refl _, Nat.le_refl _⟩ rfl dX12_sum_1 (fun H locs hW hS => ?_)
  have L3 : ∀ (n3 : Nat) (M4 : Mem) (H : Heap) (locs : List Loc) (ls : Array Slot), Wd D cy A cnM ad M4 H → va_S A s.heap H locs → lv_has ls 2 [(0, .ref (ad 12 0))] → fX12_sum_l4 op n3 M4 = some (r, M') → W p l e (rm (F + 2) (L + 43)) s m args below meth c H locs 0 0 (MQ below (QV D cy A cnM ad r M') args s 0 0 A) (F0 m 4 ls []) := by
    intro n3
    induction n3 with
    | zero => intro M4 H locs ls hW hS hl h; cases h
    | succ n3 ih3 =>
      intro M4 H locs ls hW hS hl h
      unfold fX12_sum_l4 fX12_sum_b4 at h
      refine lv_aload_n hx hb dX12_sum_4 rfl (lv_at hl 0 rfl) ?_
      refine gtX12_262 hx hb hts hown hK hW cz12 dX12_sum_5 ?_
      refine lv_if_ge (tgt := 57) hx hb dX12_sum_8 (by decide) (fun c5 => ?_) (fun c5 => ?_)
      · have h := sh_t c5 h
        exact tb_vretE h hx hb hr hS hW hlk dX12_sum_57
      · have h := sh_f c5 h
        refine lv_aload_n hx hb dX12_sum_11 rfl (lv_at hl 0 rfl) ?_
        obtain ⟨b6, hcb6, h⟩ := bd_a h
        refine tb_cVI hZk hx hb hml hown hts hK hZ hW hS [] (mX12_look (l := l) hZk M4 b6 hcb6) pmX12_look tw1590 (Wd.recv hK hW (t := 12) (by decide) cz12 (C := RX12) (T := TX12) (N := 58) rfl) ⟨(show 0 + 1 ≤ F + 2 by omega), (show 8 + (1 + 11) + (0) ≤ L + 43 by omega)⟩ rfl hl.1 (Nat.le_of_ble_eq_true rfl) ⟨Nat.le_refl _, Nat.le_refl _⟩ rfl dX12_sum_12 (fun H locs hW hS => ?_)
        refine lv_bipush (v := (43 : Int32)) hx hb dX12_sum_15 (by decide) ?_
        refine lv_icmp_eq (tgt := 29) hx hb dX12_sum_17 (by decide) (fun c7 => ?_) (fun c7 => ?_)
        · have h := sh_t c7 h
          refine lv_aload_n hx hb dX12_sum_29 rfl (lv_at hl 0 rfl) ?_
          obtain ⟨b8, hcb8, h⟩ := bd_a h
          refine tb_cVI hZk hx hb hml hown hts hK hZ hW hS [] (mX12_look (l := l) hZk M4 b8 hcb8) pmX12_look tw1590 (Wd.recv hK hW (t := 12) (by decide) cz12 (C := RX12) (T := TX12) (N := 58) rfl) ⟨(show 0 + 1 ≤ F + 2 by omega), (show 8 + (1 + 11) + (0) ≤ L + 43 by omega)⟩ rfl hl.1 (Nat.le_of_ble_eq_true rfl) ⟨Nat.le_refl _, Nat.le_refl _⟩ rfl dX12_sum_30 (fun H locs hW hS => ?_)
          refine lv_istore_n (lv' := [(1, .int b8), (0, .ref (ad 12 0))]) hx hb dX12_sum_33 rfl hl (by decide) rfl (fun ls hl => ?_)
          refine lv_aload_n hx hb dX12_sum_34 rfl (lv_at hl 1 rfl) ?_
          refine lv_dup hx hb dX12_sum_35 rfl ?_
          refine gtX12_259 hx hb hts hown hK hW cz12 dX12_sum_36 ?_
          refine lv_iconst (v := (1 : Int32)) hx hb dX12_sum_39 (by decide) ?_
          refine lv_iadd hx hb dX12_sum_40 ?_
          refine lv_topi (fun v9 ev9 => ?_)
          have h := nm_a ev9 h
          refine ptX12_259 hx hb hts hown hK hW hS cz12 dX12_sum_41 (fun H locs hW hS => ?_)
          obtain ⟨M10, eM10⟩ : ∃ y, y = msI M4 1234 0 0 v9 := ⟨_, rfl⟩
          have h := nm_a eM10 h
          rw [← eM10] at hW
          refine lv_aload_n hx hb dX12_sum_44 rfl (lv_at hl 1 rfl) ?_
          obtain ⟨u11, M12, hcu11, h⟩ := bE_a h
          refine tb_cVV hZk hx hb hml hown hts hK hZ hW hS [] (mX12_product (l := l) hZk op M10 F L hop u11 M12 hcu11) pmX12_product tw1582 (Wd.recv hK hW (t := 12) (by decide) cz12 (C := RX12) (T := TX12) (N := 58) rfl) ⟨(show F + 1 + 1 ≤ F + 2 by omega), (show 8 + (2 + 11) + (L + 22) ≤ L + 43 by omega)⟩ rfl hl.1 (Nat.le_of_ble_eq_true rfl) ⟨Nat.le_refl _, Nat.le_refl _⟩ rfl dX12_sum_45 (fun H locs hW hS => ?_)
          refine lv_aload_n hx hb dX12_sum_48 rfl (lv_at hl 1 rfl) ?_
          refine lv_iload_n hx hb dX12_sum_49 rfl (lv_at hl 0 rfl) ?_
          refine lv_iconst (v := (0 : Int32)) hx hb dX12_sum_50 (by decide) ?_
          obtain ⟨u13, M14, hcu13, h⟩ := bE_a h
          refine tb_cVV hZk hx hb hml hown hts hK hZ hW hS [.int b8, .int (0 : Int32)] (mX12_lay (l := l) hZk b8 (0 : Int32) M12 u13 M14 hcu13) pmX12_lay tw1597 (Wd.recv hK hW (t := 12) (by decide) cz12 (C := RX12) (T := TX12) (N := 58) rfl) ⟨(show 0 + 1 ≤ F + 2 by omega), (show 8 + (3 + 11) + (0) ≤ L + 43 by omega)⟩ rfl hl.1 (Nat.le_of_ble_eq_true rfl) ⟨Nat.le_refl _, Nat.le_refl _⟩ rfl dX12_sum_51 (fun H locs hW hS => ?_)
          refine lv_goto (tgt := 4) hx hb dX12_sum_54 (by decide) ?_
          exact ih3 M14 _ _ _ hW hS (lv_sub hl [1] rfl) h
        · have h := sh_f c7 h
          refine lv_aload_n hx hb dX12_sum_20 rfl (lv_at hl 0 rfl) ?_
          obtain ⟨b15, hcb15, h⟩ := bd_a h
          refine tb_cVI hZk hx hb hml hown hts hK hZ hW hS [] (mX12_look (l := l) hZk M4 b15 hcb15) pmX12_look tw1590 (Wd.recv hK hW (t := 12) (by decide) cz12 (C := RX12) (T := TX12) (N := 58) rfl) ⟨(show 0 + 1 ≤ F + 2 by omega), (show 8 + (1 + 11) + (0) ≤ L + 43 by omega)⟩ rfl hl.1 (Nat.le_of_ble_eq_true rfl) ⟨Nat.le_refl _, Nat.le_refl _⟩ rfl dX12_sum_21 (fun H locs hW hS => ?_)
          refine lv_bipush (v := (45 : Int32)) hx hb dX12_sum_24 (by decide) ?_
          refine lv_icmp_ne (tgt := 57) hx hb dX12_sum_26 (by decide) (fun c16 => ?_) (fun c16 => ?_)
          · have h := sh_f c16 h
            exact tb_vretE h hx hb hr hS hW hlk dX12_sum_57
          · have h := sh_t c16 h
            refine lv_aload_n hx hb dX12_sum_29 rfl (lv_at hl 0 rfl) ?_
            obtain ⟨b17, hcb17, h⟩ := bd_a h
            refine tb_cVI hZk hx hb hml hown hts hK hZ hW hS [] (mX12_look (l := l) hZk M4 b17 hcb17) pmX12_look tw1590 (Wd.recv hK hW (t := 12) (by decide) cz12 (C := RX12) (T := TX12) (N := 58) rfl) ⟨(show 0 + 1 ≤ F + 2 by omega), (show 8 + (1 + 11) + (0) ≤ L + 43 by omega)⟩ rfl hl.1 (Nat.le_of_ble_eq_true rfl) ⟨Nat.le_refl _, Nat.le_refl _⟩ rfl dX12_sum_30 (fun H locs hW hS => ?_)
            refine lv_istore_n (lv' := [(1, .int b17), (0, .ref (ad 12 0))]) hx hb dX12_sum_33 rfl hl (by decide) rfl (fun ls hl => ?_)
            refine lv_aload_n hx hb dX12_sum_34 rfl (lv_at hl 1 rfl) ?_
            refine lv_dup hx hb dX12_sum_35 rfl ?_
            refine gtX12_259 hx hb hts hown hK hW cz12 dX12_sum_36 ?_
            refine lv_iconst (v := (1 : Int32)) hx hb dX12_sum_39 (by decide) ?_
            refine lv_iadd hx hb dX12_sum_40 ?_
            refine lv_topi (fun v18 ev18 => ?_)
            have h := nm_a ev18 h
            refine ptX12_259 hx hb hts hown hK hW hS cz12 dX12_sum_41 (fun H locs hW hS => ?_)
            obtain ⟨M19, eM19⟩ : ∃ y, y = msI M4 1234 0 0 v18 := ⟨_, rfl⟩
            have h := nm_a eM19 h
            rw [← eM19] at hW
            refine lv_aload_n hx hb dX12_sum_44 rfl (lv_at hl 1 rfl) ?_
            obtain ⟨u20, M21, hcu20, h⟩ := bE_a h
            refine tb_cVV hZk hx hb hml hown hts hK hZ hW hS [] (mX12_product (l := l) hZk op M19 F L hop u20 M21 hcu20) pmX12_product tw1582 (Wd.recv hK hW (t := 12) (by decide) cz12 (C := RX12) (T := TX12) (N := 58) rfl) ⟨(show F + 1 + 1 ≤ F + 2 by omega), (show 8 + (2 + 11) + (L + 22) ≤ L + 43 by omega)⟩ rfl hl.1 (Nat.le_of_ble_eq_true rfl) ⟨Nat.le_refl _, Nat.le_refl _⟩ rfl dX12_sum_45 (fun H locs hW hS => ?_)
            refine lv_aload_n hx hb dX12_sum_48 rfl (lv_at hl 1 rfl) ?_
            refine lv_iload_n hx hb dX12_sum_49 rfl (lv_at hl 0 rfl) ?_
            refine lv_iconst (v := (0 : Int32)) hx hb dX12_sum_50 (by decide) ?_
            obtain ⟨u22, M23, hcu22, h⟩ := bE_a h
            refine tb_cVV hZk hx hb hml hown hts hK hZ hW hS [.int b17, .int (0 : Int32)] (mX12_lay (l := l) hZk b17 (0 : Int32) M21 u22 M23 hcu22) pmX12_lay tw1597 (Wd.recv hK hW (t := 12) (by decide) cz12 (C := RX12) (T := TX12) (N := 58) rfl) ⟨(show 0 + 1 ≤ F + 2 by omega), (show 8 + (3 + 11) + (0) ≤ L + 43 by omega)⟩ rfl hl.1 (Nat.le_of_ble_eq_true rfl) ⟨Nat.le_refl _, Nat.le_refl _⟩ rfl dX12_sum_51 (fun H locs hW hS => ?_)
            refine lv_goto (tgt := 4) hx hb dX12_sum_54 (by decide) ?_
            exact ih3 M23 _ _ _ hW hS (lv_sub hl [1] rfl) h
  exact L3 FU M2 _ _ _ hW hS (lv_sub hl [0] rfl) h
def fX12_compared (op : Mem → Option (Unit × Mem)) (M0 : Mem) : Option (Unit × Mem) :=
  bE (fX12_sum op M0) fun u1 M2 => bd (fX12_look M2) fun b3 => if 0 ≤ (mgI M2 1235 0 0) then (some ((), M2)) else (if b3 = (60 : Int32) then (nm ((mgI M2 1234 0 0) + (1 : Int32)) fun v6 => nm (msI M2 1234 0 0 v6) fun M7 => bE (fX12_sum op M7) fun u8 M9 => bE (fX12_lay b3 (0 : Int32) M9) fun u10 M11 => some ((), M11)) else (if b3 = (61 : Int32) then (nm ((mgI M2 1234 0 0) + (1 : Int32)) fun v13 => nm (msI M2 1234 0 0 v13) fun M14 => bE (fX12_sum op M14) fun u15 M16 => bE (fX12_lay b3 (0 : Int32) M16) fun u17 M18 => some ((), M18)) else (if b3 = (62 : Int32) then (nm ((mgI M2 1234 0 0) + (1 : Int32)) fun v20 => nm (msI M2 1234 0 0 v20) fun M21 => bE (fX12_sum op M21) fun u22 M23 => bE (fX12_lay b3 (0 : Int32) M23) fun u24 M25 => some ((), M25)) else (some ((), M2)))))
set_option maxHeartbeats 4000000 in
set_option maxRecDepth 100000 in
theorem mX12_compared {l : Launch} {D : va_G} {cy : Nat → ClassId} {A : Nat → Prop} {Z : State → Heap → Prop} {ad : Nat → Nat → Nat} (hZk : ZOK A Z) (op : Mem → Option (Unit × Mem)) (M0 : Mem) (F L : Nat) (hop : ∀  (M0 : Mem) (r : Unit) (M' : Mem), op M0 = some (r, M') → Met l yX12_operand (wt yX12_operand cX12_operand 2 none) (rm (F) (L)) (CPre D cy A Z cnM ad M0 [.ref (ad 12 0)]) (QV D cy A cnM ad r M') 0 0 A) (r : Unit) (M' : Mem) (h : fX12_compared op M0 = some (r, M')) : Met l yX12_compared (wt yX12_compared cX12_compared 2 none) (rm (F + 3) (L + 64)) (CPre D cy A Z cnM ad M0 [.ref (ad 12 0)]) (QV D cy A cnM ad r M') 0 0 A := by
  refine tb_start [.ref (ad 12 0)] [(0, .ref (ad 12 0))] RX12 rfl (by decide +kernel) (Nat.le_of_ble_eq_true rfl) rfl (fun p e s m args below meth c hx hb hr hml hown hts hlk hW hK hZ ls hl => ?_)
  have hS : va_S A s.heap s.heap [] := va_S.rf
  unfold fX12_compared at h
  refine lv_aload_n hx hb dX12_compared_0 rfl (lv_at hl 0 rfl) ?_
  obtain ⟨u1, M2, hcu1, h⟩ := bE_a h
  refine tb_cVV hZk hx hb hml hown hts hK hZ hW hS [] (mX12_sum (l := l) hZk op M0 F L hop u1 M2 hcu1) pmX12_sum tw1578 (Wd.recv hK hW (t := 12) (by decide) cz12 (C := RX12) (T := TX12) (N := 58) rfl) ⟨(show F + 2 + 1 ≤ F + 3 by omega), (show 8 + (2 + 11) + (L + 43) ≤ L + 64 by omega)⟩ rfl hl.1 (Nat.le_of_ble_eq_true rfl) ⟨Nat.le_refl _, Nat.le_refl _⟩ rfl dX12_compared_1 (fun H locs hW hS => ?_)
  refine lv_aload_n hx hb dX12_compared_4 rfl (lv_at hl 0 rfl) ?_
  obtain ⟨b3, hcb3, h⟩ := bd_a h
  refine tb_cVI hZk hx hb hml hown hts hK hZ hW hS [] (mX12_look (l := l) hZk M2 b3 hcb3) pmX12_look tw1590 (Wd.recv hK hW (t := 12) (by decide) cz12 (C := RX12) (T := TX12) (N := 58) rfl) ⟨(show 0 + 1 ≤ F + 3 by omega), (show 8 + (1 + 11) + (0) ≤ L + 64 by omega)⟩ rfl hl.1 (Nat.le_of_ble_eq_true rfl) ⟨Nat.le_refl _, Nat.le_refl _⟩ rfl dX12_compared_5 (fun H locs hW hS => ?_)
  refine lv_istore_n (lv' := [(1, .int b3), (0, .ref (ad 12 0))]) hx hb dX12_compared_8 rfl hl (by decide) rfl (fun ls hl => ?_)
  refine lv_aload_n hx hb dX12_compared_9 rfl (lv_at hl 1 rfl) ?_
  refine gtX12_262 hx hb hts hown hK hW cz12 dX12_compared_10 ?_
  refine lv_if_ge (tgt := 34) hx hb dX12_compared_13 (by decide) (fun c4 => ?_) (fun c4 => ?_)
  · have h := sh_t c4 h
    exact tb_vretE h hx hb hr hS hW hlk dX12_compared_34
  · have h := sh_f c4 h
    refine lv_iload_n hx hb dX12_compared_16 rfl (lv_at hl 0 rfl) ?_
    refine lv_bipush (v := (60 : Int32)) hx hb dX12_compared_17 (by decide) ?_
    refine lv_icmp_eq (tgt := 35) hx hb dX12_compared_19 (by decide) (fun c5 => ?_) (fun c5 => ?_)
    · have h := sh_t c5 h
      refine lv_aload_n hx hb dX12_compared_35 rfl (lv_at hl 1 rfl) ?_
      refine lv_dup hx hb dX12_compared_36 rfl ?_
      refine gtX12_259 hx hb hts hown hK hW cz12 dX12_compared_37 ?_
      refine lv_iconst (v := (1 : Int32)) hx hb dX12_compared_40 (by decide) ?_
      refine lv_iadd hx hb dX12_compared_41 ?_
      refine lv_topi (fun v6 ev6 => ?_)
      have h := nm_a ev6 h
      refine ptX12_259 hx hb hts hown hK hW hS cz12 dX12_compared_42 (fun H locs hW hS => ?_)
      obtain ⟨M7, eM7⟩ : ∃ y, y = msI M2 1234 0 0 v6 := ⟨_, rfl⟩
      have h := nm_a eM7 h
      rw [← eM7] at hW
      refine lv_aload_n hx hb dX12_compared_45 rfl (lv_at hl 1 rfl) ?_
      obtain ⟨u8, M9, hcu8, h⟩ := bE_a h
      refine tb_cVV hZk hx hb hml hown hts hK hZ hW hS [] (mX12_sum (l := l) hZk op M7 F L hop u8 M9 hcu8) pmX12_sum tw1578 (Wd.recv hK hW (t := 12) (by decide) cz12 (C := RX12) (T := TX12) (N := 58) rfl) ⟨(show F + 2 + 1 ≤ F + 3 by omega), (show 8 + (2 + 11) + (L + 43) ≤ L + 64 by omega)⟩ rfl hl.1 (Nat.le_of_ble_eq_true rfl) ⟨Nat.le_refl _, Nat.le_refl _⟩ rfl dX12_compared_46 (fun H locs hW hS => ?_)
      refine lv_aload_n hx hb dX12_compared_49 rfl (lv_at hl 1 rfl) ?_
      refine lv_iload_n hx hb dX12_compared_50 rfl (lv_at hl 0 rfl) ?_
      refine lv_iconst (v := (0 : Int32)) hx hb dX12_compared_51 (by decide) ?_
      obtain ⟨u10, M11, hcu10, h⟩ := bE_a h
      refine tb_cVV hZk hx hb hml hown hts hK hZ hW hS [.int b3, .int (0 : Int32)] (mX12_lay (l := l) hZk b3 (0 : Int32) M9 u10 M11 hcu10) pmX12_lay tw1597 (Wd.recv hK hW (t := 12) (by decide) cz12 (C := RX12) (T := TX12) (N := 58) rfl) ⟨(show 0 + 1 ≤ F + 3 by omega), (show 8 + (3 + 11) + (0) ≤ L + 64 by omega)⟩ rfl hl.1 (Nat.le_of_ble_eq_true rfl) ⟨Nat.le_refl _, Nat.le_refl _⟩ rfl dX12_compared_52 (fun H locs hW hS => ?_)
      exact tb_vretE h hx hb hr hS hW hlk dX12_compared_55
    · have h := sh_f c5 h
      refine lv_iload_n hx hb dX12_compared_22 rfl (lv_at hl 0 rfl) ?_
      refine lv_bipush (v := (61 : Int32)) hx hb dX12_compared_23 (by decide) ?_
      refine lv_icmp_eq (tgt := 35) hx hb dX12_compared_25 (by decide) (fun c12 => ?_) (fun c12 => ?_)
      · have h := sh_t c12 h
        refine lv_aload_n hx hb dX12_compared_35 rfl (lv_at hl 1 rfl) ?_
        refine lv_dup hx hb dX12_compared_36 rfl ?_
        refine gtX12_259 hx hb hts hown hK hW cz12 dX12_compared_37 ?_
        refine lv_iconst (v := (1 : Int32)) hx hb dX12_compared_40 (by decide) ?_
        refine lv_iadd hx hb dX12_compared_41 ?_
        refine lv_topi (fun v13 ev13 => ?_)
        have h := nm_a ev13 h
        refine ptX12_259 hx hb hts hown hK hW hS cz12 dX12_compared_42 (fun H locs hW hS => ?_)
        obtain ⟨M14, eM14⟩ : ∃ y, y = msI M2 1234 0 0 v13 := ⟨_, rfl⟩
        have h := nm_a eM14 h
        rw [← eM14] at hW
        refine lv_aload_n hx hb dX12_compared_45 rfl (lv_at hl 1 rfl) ?_
        obtain ⟨u15, M16, hcu15, h⟩ := bE_a h
        refine tb_cVV hZk hx hb hml hown hts hK hZ hW hS [] (mX12_sum (l := l) hZk op M14 F L hop u15 M16 hcu15) pmX12_sum tw1578 (Wd.recv hK hW (t := 12) (by decide) cz12 (C := RX12) (T := TX12) (N := 58) rfl) ⟨(show F + 2 + 1 ≤ F + 3 by omega), (show 8 + (2 + 11) + (L + 43) ≤ L + 64 by omega)⟩ rfl hl.1 (Nat.le_of_ble_eq_true rfl) ⟨Nat.le_refl _, Nat.le_refl _⟩ rfl dX12_compared_46 (fun H locs hW hS => ?_)
        refine lv_aload_n hx hb dX12_compared_49 rfl (lv_at hl 1 rfl) ?_
        refine lv_iload_n hx hb dX12_compared_50 rfl (lv_at hl 0 rfl) ?_
        refine lv_iconst (v := (0 : Int32)) hx hb dX12_compared_51 (by decide) ?_
        obtain ⟨u17, M18, hcu17, h⟩ := bE_a h
        refine tb_cVV hZk hx hb hml hown hts hK hZ hW hS [.int b3, .int (0 : Int32)] (mX12_lay (l := l) hZk b3 (0 : Int32) M16 u17 M18 hcu17) pmX12_lay tw1597 (Wd.recv hK hW (t := 12) (by decide) cz12 (C := RX12) (T := TX12) (N := 58) rfl) ⟨(show 0 + 1 ≤ F + 3 by omega), (show 8 + (3 + 11) + (0) ≤ L + 64 by omega)⟩ rfl hl.1 (Nat.le_of_ble_eq_true rfl) ⟨Nat.le_refl _, Nat.le_refl _⟩ rfl dX12_compared_52 (fun H locs hW hS => ?_)
        exact tb_vretE h hx hb hr hS hW hlk dX12_compared_55
      · have h := sh_f c12 h
        refine lv_iload_n hx hb dX12_compared_28 rfl (lv_at hl 0 rfl) ?_
        refine lv_bipush (v := (62 : Int32)) hx hb dX12_compared_29 (by decide) ?_
        refine lv_icmp_eq (tgt := 35) hx hb dX12_compared_31 (by decide) (fun c19 => ?_) (fun c19 => ?_)
        · have h := sh_t c19 h
          refine lv_aload_n hx hb dX12_compared_35 rfl (lv_at hl 1 rfl) ?_
          refine lv_dup hx hb dX12_compared_36 rfl ?_
          refine gtX12_259 hx hb hts hown hK hW cz12 dX12_compared_37 ?_
          refine lv_iconst (v := (1 : Int32)) hx hb dX12_compared_40 (by decide) ?_
          refine lv_iadd hx hb dX12_compared_41 ?_
          refine lv_topi (fun v20 ev20 => ?_)
          have h := nm_a ev20 h
          refine ptX12_259 hx hb hts hown hK hW hS cz12 dX12_compared_42 (fun H locs hW hS => ?_)
          obtain ⟨M21, eM21⟩ : ∃ y, y = msI M2 1234 0 0 v20 := ⟨_, rfl⟩
          have h := nm_a eM21 h
          rw [← eM21] at hW
          refine lv_aload_n hx hb dX12_compared_45 rfl (lv_at hl 1 rfl) ?_
          obtain ⟨u22, M23, hcu22, h⟩ := bE_a h
          refine tb_cVV hZk hx hb hml hown hts hK hZ hW hS [] (mX12_sum (l := l) hZk op M21 F L hop u22 M23 hcu22) pmX12_sum tw1578 (Wd.recv hK hW (t := 12) (by decide) cz12 (C := RX12) (T := TX12) (N := 58) rfl) ⟨(show F + 2 + 1 ≤ F + 3 by omega), (show 8 + (2 + 11) + (L + 43) ≤ L + 64 by omega)⟩ rfl hl.1 (Nat.le_of_ble_eq_true rfl) ⟨Nat.le_refl _, Nat.le_refl _⟩ rfl dX12_compared_46 (fun H locs hW hS => ?_)
          refine lv_aload_n hx hb dX12_compared_49 rfl (lv_at hl 1 rfl) ?_
          refine lv_iload_n hx hb dX12_compared_50 rfl (lv_at hl 0 rfl) ?_
          refine lv_iconst (v := (0 : Int32)) hx hb dX12_compared_51 (by decide) ?_
          obtain ⟨u24, M25, hcu24, h⟩ := bE_a h
          refine tb_cVV hZk hx hb hml hown hts hK hZ hW hS [.int b3, .int (0 : Int32)] (mX12_lay (l := l) hZk b3 (0 : Int32) M23 u24 M25 hcu24) pmX12_lay tw1597 (Wd.recv hK hW (t := 12) (by decide) cz12 (C := RX12) (T := TX12) (N := 58) rfl) ⟨(show 0 + 1 ≤ F + 3 by omega), (show 8 + (3 + 11) + (0) ≤ L + 64 by omega)⟩ rfl hl.1 (Nat.le_of_ble_eq_true rfl) ⟨Nat.le_refl _, Nat.le_refl _⟩ rfl dX12_compared_52 (fun H locs hW hS => ?_)
          exact tb_vretE h hx hb hr hS hW hlk dX12_compared_55
        · have h := sh_f c19 h
          exact tb_vretE h hx hb hr hS hW hlk dX12_compared_34
def fX12_both_b4 (op : Mem → Option (Unit × Mem)) (k3 : Mem → Option (Unit × Mem)) (M4 : Mem) : Option (Unit × Mem) :=
  if 0 ≤ (mgI M4 1235 0 0) then (some ((), M4)) else (bd (fX12_look M4) fun b6 => if b6 = (38 : Int32) then (nm ((mgI M4 1234 0 0) + (1 : Int32)) fun v8 => nm (msI M4 1234 0 0 v8) fun M9 => bE (fX12_compared op M9) fun u10 M11 => bE (fX12_lay (38 : Int32) (0 : Int32) M11) fun u12 M13 => k3 M13) else (some ((), M4)))
def fX12_both_l4 (op : Mem → Option (Unit × Mem)) : Nat → Mem → Option (Unit × Mem)
  | 0, _ => none
  | n + 1, M4 => fX12_both_b4 op (fX12_both_l4 op n) M4
def fX12_both (op : Mem → Option (Unit × Mem)) (M0 : Mem) : Option (Unit × Mem) :=
  bE (fX12_compared op M0) fun u1 M2 => fX12_both_l4 op FU M2
set_option maxHeartbeats 4000000 in
set_option maxRecDepth 100000 in
theorem mX12_both {l : Launch} {D : va_G} {cy : Nat → ClassId} {A : Nat → Prop} {Z : State → Heap → Prop} {ad : Nat → Nat → Nat} (hZk : ZOK A Z) (op : Mem → Option (Unit × Mem)) (M0 : Mem) (F L : Nat) (hop : ∀  (M0 : Mem) (r : Unit) (M' : Mem), op M0 = some (r, M') → Met l yX12_operand (wt yX12_operand cX12_operand 2 none) (rm (F) (L)) (CPre D cy A Z cnM ad M0 [.ref (ad 12 0)]) (QV D cy A cnM ad r M') 0 0 A) (r : Unit) (M' : Mem) (h : fX12_both op M0 = some (r, M')) : Met l yX12_both (wt yX12_both cX12_both 1 none) (rm (F + 4) (L + 85)) (CPre D cy A Z cnM ad M0 [.ref (ad 12 0)]) (QV D cy A cnM ad r M') 0 0 A := by
  refine tb_start [.ref (ad 12 0)] [(0, .ref (ad 12 0))] RX12 rfl (by decide +kernel) (Nat.le_of_ble_eq_true rfl) rfl (fun p e s m args below meth c hx hb hr hml hown hts hlk hW hK hZ ls hl => ?_)
  have hS : va_S A s.heap s.heap [] := va_S.rf
  unfold fX12_both at h
  refine lv_aload_n hx hb dX12_both_0 rfl (lv_at hl 0 rfl) ?_
  obtain ⟨u1, M2, hcu1, h⟩ := bE_a h
  refine tb_cVV hZk hx hb hml hown hts hK hZ hW hS [] (mX12_compared (l := l) hZk op M0 F L hop u1 M2 hcu1) pmX12_compared tw1574 (Wd.recv hK hW (t := 12) (by decide) cz12 (C := RX12) (T := TX12) (N := 58) rfl) ⟨(show F + 3 + 1 ≤ F + 4 by omega), (show 8 + (2 + 11) + (L + 64) ≤ L + 85 by omega)⟩ rfl hl.1 (Nat.le_of_ble_eq_true rfl) ⟨Nat.le_refl _, Nat.le_refl _⟩ rfl dX12_both_1 (fun H locs hW hS => ?_)
  have L3 : ∀ (n3 : Nat) (M4 : Mem) (H : Heap) (locs : List Loc) (ls : Array Slot), Wd D cy A cnM ad M4 H → va_S A s.heap H locs → lv_has ls 1 [(0, .ref (ad 12 0))] → fX12_both_l4 op n3 M4 = some (r, M') → W p l e (rm (F + 4) (L + 85)) s m args below meth c H locs 0 0 (MQ below (QV D cy A cnM ad r M') args s 0 0 A) (F0 m 4 ls []) := by
    intro n3
    induction n3 with
    | zero => intro M4 H locs ls hW hS hl h; cases h
    | succ n3 ih3 =>
      intro M4 H locs ls hW hS hl h
      unfold fX12_both_l4 fX12_both_b4 at h
      refine lv_aload_n hx hb dX12_both_4 rfl (lv_at hl 0 rfl) ?_
      refine gtX12_262 hx hb hts hown hK hW cz12 dX12_both_5 ?_
      refine lv_if_ge (tgt := 44) hx hb dX12_both_8 (by decide) (fun c5 => ?_) (fun c5 => ?_)
      · have h := sh_t c5 h
        exact tb_vretE h hx hb hr hS hW hlk dX12_both_44
      · have h := sh_f c5 h
        refine lv_aload_n hx hb dX12_both_11 rfl (lv_at hl 0 rfl) ?_
        obtain ⟨b6, hcb6, h⟩ := bd_a h
        refine tb_cVI hZk hx hb hml hown hts hK hZ hW hS [] (mX12_look (l := l) hZk M4 b6 hcb6) pmX12_look tw1590 (Wd.recv hK hW (t := 12) (by decide) cz12 (C := RX12) (T := TX12) (N := 58) rfl) ⟨(show 0 + 1 ≤ F + 4 by omega), (show 8 + (1 + 11) + (0) ≤ L + 85 by omega)⟩ rfl hl.1 (Nat.le_of_ble_eq_true rfl) ⟨Nat.le_refl _, Nat.le_refl _⟩ rfl dX12_both_12 (fun H locs hW hS => ?_)
        refine lv_bipush (v := (38 : Int32)) hx hb dX12_both_15 (by decide) ?_
        refine lv_icmp_ne (tgt := 44) hx hb dX12_both_17 (by decide) (fun c7 => ?_) (fun c7 => ?_)
        · have h := sh_f c7 h
          exact tb_vretE h hx hb hr hS hW hlk dX12_both_44
        · have h := sh_t c7 h
          refine lv_aload_n hx hb dX12_both_20 rfl (lv_at hl 0 rfl) ?_
          refine lv_dup hx hb dX12_both_21 rfl ?_
          refine gtX12_259 hx hb hts hown hK hW cz12 dX12_both_22 ?_
          refine lv_iconst (v := (1 : Int32)) hx hb dX12_both_25 (by decide) ?_
          refine lv_iadd hx hb dX12_both_26 ?_
          refine lv_topi (fun v8 ev8 => ?_)
          have h := nm_a ev8 h
          refine ptX12_259 hx hb hts hown hK hW hS cz12 dX12_both_27 (fun H locs hW hS => ?_)
          obtain ⟨M9, eM9⟩ : ∃ y, y = msI M4 1234 0 0 v8 := ⟨_, rfl⟩
          have h := nm_a eM9 h
          rw [← eM9] at hW
          refine lv_aload_n hx hb dX12_both_30 rfl (lv_at hl 0 rfl) ?_
          obtain ⟨u10, M11, hcu10, h⟩ := bE_a h
          refine tb_cVV hZk hx hb hml hown hts hK hZ hW hS [] (mX12_compared (l := l) hZk op M9 F L hop u10 M11 hcu10) pmX12_compared tw1574 (Wd.recv hK hW (t := 12) (by decide) cz12 (C := RX12) (T := TX12) (N := 58) rfl) ⟨(show F + 3 + 1 ≤ F + 4 by omega), (show 8 + (2 + 11) + (L + 64) ≤ L + 85 by omega)⟩ rfl hl.1 (Nat.le_of_ble_eq_true rfl) ⟨Nat.le_refl _, Nat.le_refl _⟩ rfl dX12_both_31 (fun H locs hW hS => ?_)
          refine lv_aload_n hx hb dX12_both_34 rfl (lv_at hl 0 rfl) ?_
          refine lv_bipush (v := (38 : Int32)) hx hb dX12_both_35 (by decide) ?_
          refine lv_iconst (v := (0 : Int32)) hx hb dX12_both_37 (by decide) ?_
          obtain ⟨u12, M13, hcu12, h⟩ := bE_a h
          refine tb_cVV hZk hx hb hml hown hts hK hZ hW hS [.int (38 : Int32), .int (0 : Int32)] (mX12_lay (l := l) hZk (38 : Int32) (0 : Int32) M11 u12 M13 hcu12) pmX12_lay tw1597 (Wd.recv hK hW (t := 12) (by decide) cz12 (C := RX12) (T := TX12) (N := 58) rfl) ⟨(show 0 + 1 ≤ F + 4 by omega), (show 8 + (3 + 11) + (0) ≤ L + 85 by omega)⟩ rfl hl.1 (Nat.le_of_ble_eq_true rfl) ⟨Nat.le_refl _, Nat.le_refl _⟩ rfl dX12_both_38 (fun H locs hW hS => ?_)
          refine lv_goto (tgt := 4) hx hb dX12_both_41 (by decide) ?_
          exact ih3 M13 _ _ _ hW hS (lv_sub hl [0] rfl) h
  exact L3 FU M2 _ _ _ hW hS (lv_sub hl [0] rfl) h
def fX12_either_b4 (op : Mem → Option (Unit × Mem)) (k3 : Mem → Option (Unit × Mem)) (M4 : Mem) : Option (Unit × Mem) :=
  if 0 ≤ (mgI M4 1235 0 0) then (some ((), M4)) else (bd (fX12_look M4) fun b6 => if b6 = (124 : Int32) then (nm ((mgI M4 1234 0 0) + (1 : Int32)) fun v8 => nm (msI M4 1234 0 0 v8) fun M9 => bE (fX12_both op M9) fun u10 M11 => bE (fX12_lay (124 : Int32) (0 : Int32) M11) fun u12 M13 => k3 M13) else (some ((), M4)))
def fX12_either_l4 (op : Mem → Option (Unit × Mem)) : Nat → Mem → Option (Unit × Mem)
  | 0, _ => none
  | n + 1, M4 => fX12_either_b4 op (fX12_either_l4 op n) M4
def fX12_either (op : Mem → Option (Unit × Mem)) (M0 : Mem) : Option (Unit × Mem) :=
  bE (fX12_both op M0) fun u1 M2 => fX12_either_l4 op FU M2
set_option maxHeartbeats 4000000 in
set_option maxRecDepth 100000 in
theorem mX12_either {l : Launch} {D : va_G} {cy : Nat → ClassId} {A : Nat → Prop} {Z : State → Heap → Prop} {ad : Nat → Nat → Nat} (hZk : ZOK A Z) (op : Mem → Option (Unit × Mem)) (M0 : Mem) (F L : Nat) (hop : ∀  (M0 : Mem) (r : Unit) (M' : Mem), op M0 = some (r, M') → Met l yX12_operand (wt yX12_operand cX12_operand 2 none) (rm (F) (L)) (CPre D cy A Z cnM ad M0 [.ref (ad 12 0)]) (QV D cy A cnM ad r M') 0 0 A) (r : Unit) (M' : Mem) (h : fX12_either op M0 = some (r, M')) : Met l yX12_either (wt yX12_either cX12_either 1 none) (rm (F + 5) (L + 105)) (CPre D cy A Z cnM ad M0 [.ref (ad 12 0)]) (QV D cy A cnM ad r M') 0 0 A := by
  refine tb_start [.ref (ad 12 0)] [(0, .ref (ad 12 0))] RX12 rfl (by decide +kernel) (Nat.le_of_ble_eq_true rfl) rfl (fun p e s m args below meth c hx hb hr hml hown hts hlk hW hK hZ ls hl => ?_)
  have hS : va_S A s.heap s.heap [] := va_S.rf
  unfold fX12_either at h
  refine lv_aload_n hx hb dX12_either_0 rfl (lv_at hl 0 rfl) ?_
  obtain ⟨u1, M2, hcu1, h⟩ := bE_a h
  refine tb_cVV hZk hx hb hml hown hts hK hZ hW hS [] (mX12_both (l := l) hZk op M0 F L hop u1 M2 hcu1) pmX12_both tw1570 (Wd.recv hK hW (t := 12) (by decide) cz12 (C := RX12) (T := TX12) (N := 58) rfl) ⟨(show F + 4 + 1 ≤ F + 5 by omega), (show 8 + (1 + 11) + (L + 85) ≤ L + 105 by omega)⟩ rfl hl.1 (Nat.le_of_ble_eq_true rfl) ⟨Nat.le_refl _, Nat.le_refl _⟩ rfl dX12_either_1 (fun H locs hW hS => ?_)
  have L3 : ∀ (n3 : Nat) (M4 : Mem) (H : Heap) (locs : List Loc) (ls : Array Slot), Wd D cy A cnM ad M4 H → va_S A s.heap H locs → lv_has ls 1 [(0, .ref (ad 12 0))] → fX12_either_l4 op n3 M4 = some (r, M') → W p l e (rm (F + 5) (L + 105)) s m args below meth c H locs 0 0 (MQ below (QV D cy A cnM ad r M') args s 0 0 A) (F0 m 4 ls []) := by
    intro n3
    induction n3 with
    | zero => intro M4 H locs ls hW hS hl h; cases h
    | succ n3 ih3 =>
      intro M4 H locs ls hW hS hl h
      unfold fX12_either_l4 fX12_either_b4 at h
      refine lv_aload_n hx hb dX12_either_4 rfl (lv_at hl 0 rfl) ?_
      refine gtX12_262 hx hb hts hown hK hW cz12 dX12_either_5 ?_
      refine lv_if_ge (tgt := 44) hx hb dX12_either_8 (by decide) (fun c5 => ?_) (fun c5 => ?_)
      · have h := sh_t c5 h
        exact tb_vretE h hx hb hr hS hW hlk dX12_either_44
      · have h := sh_f c5 h
        refine lv_aload_n hx hb dX12_either_11 rfl (lv_at hl 0 rfl) ?_
        obtain ⟨b6, hcb6, h⟩ := bd_a h
        refine tb_cVI hZk hx hb hml hown hts hK hZ hW hS [] (mX12_look (l := l) hZk M4 b6 hcb6) pmX12_look tw1590 (Wd.recv hK hW (t := 12) (by decide) cz12 (C := RX12) (T := TX12) (N := 58) rfl) ⟨(show 0 + 1 ≤ F + 5 by omega), (show 8 + (1 + 11) + (0) ≤ L + 105 by omega)⟩ rfl hl.1 (Nat.le_of_ble_eq_true rfl) ⟨Nat.le_refl _, Nat.le_refl _⟩ rfl dX12_either_12 (fun H locs hW hS => ?_)
        refine lv_bipush (v := (124 : Int32)) hx hb dX12_either_15 (by decide) ?_
        refine lv_icmp_ne (tgt := 44) hx hb dX12_either_17 (by decide) (fun c7 => ?_) (fun c7 => ?_)
        · have h := sh_f c7 h
          exact tb_vretE h hx hb hr hS hW hlk dX12_either_44
        · have h := sh_t c7 h
          refine lv_aload_n hx hb dX12_either_20 rfl (lv_at hl 0 rfl) ?_
          refine lv_dup hx hb dX12_either_21 rfl ?_
          refine gtX12_259 hx hb hts hown hK hW cz12 dX12_either_22 ?_
          refine lv_iconst (v := (1 : Int32)) hx hb dX12_either_25 (by decide) ?_
          refine lv_iadd hx hb dX12_either_26 ?_
          refine lv_topi (fun v8 ev8 => ?_)
          have h := nm_a ev8 h
          refine ptX12_259 hx hb hts hown hK hW hS cz12 dX12_either_27 (fun H locs hW hS => ?_)
          obtain ⟨M9, eM9⟩ : ∃ y, y = msI M4 1234 0 0 v8 := ⟨_, rfl⟩
          have h := nm_a eM9 h
          rw [← eM9] at hW
          refine lv_aload_n hx hb dX12_either_30 rfl (lv_at hl 0 rfl) ?_
          obtain ⟨u10, M11, hcu10, h⟩ := bE_a h
          refine tb_cVV hZk hx hb hml hown hts hK hZ hW hS [] (mX12_both (l := l) hZk op M9 F L hop u10 M11 hcu10) pmX12_both tw1570 (Wd.recv hK hW (t := 12) (by decide) cz12 (C := RX12) (T := TX12) (N := 58) rfl) ⟨(show F + 4 + 1 ≤ F + 5 by omega), (show 8 + (1 + 11) + (L + 85) ≤ L + 105 by omega)⟩ rfl hl.1 (Nat.le_of_ble_eq_true rfl) ⟨Nat.le_refl _, Nat.le_refl _⟩ rfl dX12_either_31 (fun H locs hW hS => ?_)
          refine lv_aload_n hx hb dX12_either_34 rfl (lv_at hl 0 rfl) ?_
          refine lv_bipush (v := (124 : Int32)) hx hb dX12_either_35 (by decide) ?_
          refine lv_iconst (v := (0 : Int32)) hx hb dX12_either_37 (by decide) ?_
          obtain ⟨u12, M13, hcu12, h⟩ := bE_a h
          refine tb_cVV hZk hx hb hml hown hts hK hZ hW hS [.int (124 : Int32), .int (0 : Int32)] (mX12_lay (l := l) hZk (124 : Int32) (0 : Int32) M11 u12 M13 hcu12) pmX12_lay tw1597 (Wd.recv hK hW (t := 12) (by decide) cz12 (C := RX12) (T := TX12) (N := 58) rfl) ⟨(show 0 + 1 ≤ F + 5 by omega), (show 8 + (3 + 11) + (0) ≤ L + 105 by omega)⟩ rfl hl.1 (Nat.le_of_ble_eq_true rfl) ⟨Nat.le_refl _, Nat.le_refl _⟩ rfl dX12_either_38 (fun H locs hW hS => ?_)
          refine lv_goto (tgt := 4) hx hb dX12_either_41 (by decide) ?_
          exact ih3 M13 _ _ _ hW hS (lv_sub hl [0] rfl) h
  exact L3 FU M2 _ _ _ hW hS (lv_sub hl [0] rfl) h
def fX12_operand (re : Mem → Option (Unit × Mem)) (ro : Mem → Option (Unit × Mem)) (M0 : Mem) : Option (Unit × Mem) :=
  bd (fX12_look M0) fun b1 => if (fX12_nameOf b1) < 0 then (if b1 = (33 : Int32) then (bE (fX12_opensOne M0) fun b4 M5 => if b4 = 0 then (some ((), M5)) else (bE (ro M5) fun u7 M8 => nm ((mgI M8 1236 0 0) - (1 : Int32)) fun v9 => nm (msI M8 1236 0 0 v9) fun M10 => if b1 = (33 : Int32) then (bE (fX12_lay (3 : Int32) (0 : Int32) M10) fun u14 M15 => some ((), M15)) else (bE (fX12_lay (4 : Int32) (0 : Int32) M10) fun u12 M13 => some ((), M13)))) else (if b1 = (45 : Int32) then (bE (fX12_opensOne M0) fun b34 M35 => if b34 = 0 then (some ((), M35)) else (bE (ro M35) fun u37 M38 => nm ((mgI M38 1236 0 0) - (1 : Int32)) fun v39 => nm (msI M38 1236 0 0 v39) fun M40 => if b1 = (33 : Int32) then (bE (fX12_lay (3 : Int32) (0 : Int32) M40) fun u44 M45 => some ((), M45)) else (bE (fX12_lay (4 : Int32) (0 : Int32) M40) fun u42 M43 => some ((), M43)))) else (if b1 = (40 : Int32) then (bE (fX12_opensOne M0) fun b20 M21 => if b20 = 0 then (some ((), M21)) else (bE (re M21) fun u23 M24 => if (mgI M24 1235 0 0) < 0 then (bd (fX12_look M24) fun b26 => if b26 = (41 : Int32) then (nm ((mgI M24 1234 0 0) + (1 : Int32)) fun v28 => nm (msI M24 1234 0 0 v28) fun M29 => nm ((mgI M29 1236 0 0) - (1 : Int32)) fun v30 => nm (msI M29 1236 0 0 v30) fun M31 => some ((), M31)) else (bE (fX12_wrong M24) fun u32 M33 => some ((), M33))) else (some ((), M24)))) else (bE (fX12_figure M0) fun u18 M19 => some ((), M19))))) else (bE (fX12_lay (2 : Int32) (fX12_nameOf b1) M0) fun u46 M47 => nm ((mgI M47 1234 0 0) + (1 : Int32)) fun v48 => nm (msI M47 1234 0 0 v48) fun M49 => some ((), M49))
set_option maxHeartbeats 4000000 in
set_option maxRecDepth 100000 in
theorem mX12_operand {l : Launch} {D : va_G} {cy : Nat → ClassId} {A : Nat → Prop} {Z : State → Heap → Prop} {ad : Nat → Nat → Nat} (hZk : ZOK A Z) (re : Mem → Option (Unit × Mem)) (ro : Mem → Option (Unit × Mem)) (M0 : Mem) (F L : Nat) (hro : ∀  (M0 : Mem) (r : Unit) (M' : Mem), ro M0 = some (r, M') → Met l yX12_operand (wt yX12_operand cX12_operand 2 none) (rm (F) (L)) (CPre D cy A Z cnM ad M0 [.ref (ad 12 0)]) (QV D cy A cnM ad r M') 0 0 A) (hre : ∀  (M0 : Mem) (r : Unit) (M' : Mem), re M0 = some (r, M') → Met l yX12_either (wt yX12_either cX12_either 1 none) (rm (F + 5) (L + 105)) (CPre D cy A Z cnM ad M0 [.ref (ad 12 0)]) (QV D cy A cnM ad r M') 0 0 A) (r : Unit) (M' : Mem) (h : fX12_operand re ro M0 = some (r, M')) : Met l yX12_operand (wt yX12_operand cX12_operand 2 none) (rm (F + 6) (L + 125)) (CPre D cy A Z cnM ad M0 [.ref (ad 12 0)]) (QV D cy A cnM ad r M') 0 0 A := by
  refine tb_start [.ref (ad 12 0)] [(0, .ref (ad 12 0))] RX12 rfl (by decide +kernel) (Nat.le_of_ble_eq_true rfl) rfl (fun p e s m args below meth c hx hb hr hml hown hts hlk hW hK hZ ls hl => ?_)
  have hS : va_S A s.heap s.heap [] := va_S.rf
  unfold fX12_operand at h
  refine lv_aload_n hx hb dX12_operand_0 rfl (lv_at hl 0 rfl) ?_
  obtain ⟨b1, hcb1, h⟩ := bd_a h
  refine tb_cVI hZk hx hb hml hown hts hK hZ hW hS [] (mX12_look (l := l) hZk M0 b1 hcb1) pmX12_look tw1590 (Wd.recv hK hW (t := 12) (by decide) cz12 (C := RX12) (T := TX12) (N := 58) rfl) ⟨(show 0 + 1 ≤ F + 6 by omega), (show 8 + (1 + 11) + (0) ≤ L + 125 by omega)⟩ rfl hl.1 (Nat.le_of_ble_eq_true rfl) ⟨Nat.le_refl _, Nat.le_refl _⟩ rfl dX12_operand_1 (fun H locs hW hS => ?_)
  refine lv_istore_n (lv' := [(1, .int b1), (0, .ref (ad 12 0))]) hx hb dX12_operand_4 rfl hl (by decide) rfl (fun ls hl => ?_)
  refine lv_iload_n hx hb dX12_operand_5 rfl (lv_at hl 0 rfl) ?_
  refine tb_cSI hZk hx hb hml hown hts hK hZ hW hS [.int b1] (mX12_nameOf (l := l) hZk b1 M0 (fX12_nameOf b1) rfl) pmX12_nameOf tw1594 ⟨(show 0 + 1 ≤ F + 6 by omega), (show 8 + (1 + 11) + (0) ≤ L + 125 by omega)⟩ rfl hl.1 (Nat.le_of_ble_eq_true rfl) ⟨Nat.le_refl _, Nat.le_refl _⟩ rfl dX12_operand_6 (fun H locs hW hS => ?_)
  refine lv_if_lt (tgt := 34) hx hb dX12_operand_9 (by decide) (fun c2 => ?_) (fun c2 => ?_)
  · have h := sh_t c2 h
    refine lv_iload_n hx hb dX12_operand_34 rfl (lv_at hl 0 rfl) ?_
    refine lv_bipush (v := (33 : Int32)) hx hb dX12_operand_35 (by decide) ?_
    refine lv_icmp_eq (tgt := 46) hx hb dX12_operand_37 (by decide) (fun c3 => ?_) (fun c3 => ?_)
    · have h := sh_t c3 h
      refine lv_aload_n hx hb dX12_operand_46 rfl (lv_at hl 1 rfl) ?_
      obtain ⟨b4, M5, hcb4, h⟩ := bE_a h
      refine tb_cVZ hZk hx hb hml hown hts hK hZ hW hS [] (mX12_opensOne (l := l) hZk M0 b4 M5 hcb4) pmX12_opensOne tw1601 (Wd.recv hK hW (t := 12) (by decide) cz12 (C := RX12) (T := TX12) (N := 58) rfl) ⟨(show 1 + 1 ≤ F + 6 by omega), (show 8 + (1 + 11) + (20) ≤ L + 125 by omega)⟩ rfl hl.1 (Nat.le_of_ble_eq_true rfl) ⟨Nat.le_refl _, Nat.le_refl _⟩ rfl dX12_operand_47 (fun H locs hW hS hzz => ?_)
      have hzb4 := hzz
      refine lv_if_ne (tgt := 54) hx hb dX12_operand_50 (by decide) (fun c6 => ?_) (fun c6 => ?_)
      · have h := sh_f c6 h
        refine lv_aload_n hx hb dX12_operand_54 rfl (lv_at hl 1 rfl) ?_
        obtain ⟨u7, M8, hcu7, h⟩ := bE_a h
        refine tb_cVV hZk hx hb hml hown hts hK hZ hW hS [] (hro M5 u7 M8 hcu7) pmX12_operand tw1586 (Wd.recv hK hW (t := 12) (by decide) cz12 (C := RX12) (T := TX12) (N := 58) rfl) ⟨(show F + 0 + 1 ≤ F + 6 by omega), (show 8 + (2 + 11) + (L + 0) ≤ L + 125 by omega)⟩ rfl hl.1 (Nat.le_of_ble_eq_true rfl) ⟨Nat.le_refl _, Nat.le_refl _⟩ rfl dX12_operand_55 (fun H locs hW hS => ?_)
        refine lv_aload_n hx hb dX12_operand_58 rfl (lv_at hl 1 rfl) ?_
        refine lv_dup hx hb dX12_operand_59 rfl ?_
        refine gtX12_268 hx hb hts hown hK hW cz12 dX12_operand_60 ?_
        refine lv_iconst (v := (1 : Int32)) hx hb dX12_operand_63 (by decide) ?_
        refine lv_isub hx hb dX12_operand_64 ?_
        refine lv_topi (fun v9 ev9 => ?_)
        have h := nm_a ev9 h
        refine ptX12_268 hx hb hts hown hK hW hS cz12 dX12_operand_65 (fun H locs hW hS => ?_)
        obtain ⟨M10, eM10⟩ : ∃ y, y = msI M8 1236 0 0 v9 := ⟨_, rfl⟩
        have h := nm_a eM10 h
        rw [← eM10] at hW
        refine lv_aload_n hx hb dX12_operand_68 rfl (lv_at hl 1 rfl) ?_
        refine lv_iload_n hx hb dX12_operand_69 rfl (lv_at hl 0 rfl) ?_
        refine lv_bipush (v := (33 : Int32)) hx hb dX12_operand_70 (by decide) ?_
        refine lv_icmp_ne (tgt := 79) hx hb dX12_operand_72 (by decide) (fun c11 => ?_) (fun c11 => ?_)
        · have h := sh_f c11 h
          refine lv_iconst (v := (4 : Int32)) hx hb dX12_operand_79 (by decide) ?_
          refine lv_iconst (v := (0 : Int32)) hx hb dX12_operand_80 (by decide) ?_
          obtain ⟨u12, M13, hcu12, h⟩ := bE_a h
          refine tb_cVV hZk hx hb hml hown hts hK hZ hW hS [.int (4 : Int32), .int (0 : Int32)] (mX12_lay (l := l) hZk (4 : Int32) (0 : Int32) M10 u12 M13 hcu12) pmX12_lay tw1597 (Wd.recv hK hW (t := 12) (by decide) cz12 (C := RX12) (T := TX12) (N := 58) rfl) ⟨(show 0 + 1 ≤ F + 6 by omega), (show 8 + (3 + 11) + (0) ≤ L + 125 by omega)⟩ rfl hl.1 (Nat.le_of_ble_eq_true rfl) ⟨Nat.le_refl _, Nat.le_refl _⟩ rfl dX12_operand_81 (fun H locs hW hS => ?_)
          refine lv_goto (tgt := 154) hx hb dX12_operand_84 (by decide) ?_
          exact tb_vretE h hx hb hr hS hW hlk dX12_operand_154
        · have h := sh_t c11 h
          refine lv_iconst (v := (3 : Int32)) hx hb dX12_operand_75 (by decide) ?_
          refine lv_goto (tgt := 80) hx hb dX12_operand_76 (by decide) ?_
          refine lv_iconst (v := (0 : Int32)) hx hb dX12_operand_80 (by decide) ?_
          obtain ⟨u14, M15, hcu14, h⟩ := bE_a h
          refine tb_cVV hZk hx hb hml hown hts hK hZ hW hS [.int (3 : Int32), .int (0 : Int32)] (mX12_lay (l := l) hZk (3 : Int32) (0 : Int32) M10 u14 M15 hcu14) pmX12_lay tw1597 (Wd.recv hK hW (t := 12) (by decide) cz12 (C := RX12) (T := TX12) (N := 58) rfl) ⟨(show 0 + 1 ≤ F + 6 by omega), (show 8 + (3 + 11) + (0) ≤ L + 125 by omega)⟩ rfl hl.1 (Nat.le_of_ble_eq_true rfl) ⟨Nat.le_refl _, Nat.le_refl _⟩ rfl dX12_operand_81 (fun H locs hW hS => ?_)
          refine lv_goto (tgt := 154) hx hb dX12_operand_84 (by decide) ?_
          exact tb_vretE h hx hb hr hS hW hlk dX12_operand_154
      · have h := sh_t c6 h
        exact tb_vretE h hx hb hr hS hW hlk dX12_operand_53
    · have h := sh_f c3 h
      refine lv_iload_n hx hb dX12_operand_40 rfl (lv_at hl 0 rfl) ?_
      refine lv_bipush (v := (45 : Int32)) hx hb dX12_operand_41 (by decide) ?_
      refine lv_icmp_ne (tgt := 87) hx hb dX12_operand_43 (by decide) (fun c16 => ?_) (fun c16 => ?_)
      · have h := sh_f c16 h
        refine lv_iload_n hx hb dX12_operand_87 rfl (lv_at hl 0 rfl) ?_
        refine lv_bipush (v := (40 : Int32)) hx hb dX12_operand_88 (by decide) ?_
        refine lv_icmp_ne (tgt := 150) hx hb dX12_operand_90 (by decide) (fun c17 => ?_) (fun c17 => ?_)
        · have h := sh_f c17 h
          refine lv_aload_n hx hb dX12_operand_150 rfl (lv_at hl 1 rfl) ?_
          obtain ⟨u18, M19, hcu18, h⟩ := bE_a h
          refine tb_cVV hZk hx hb hml hown hts hK hZ hW hS [] (mX12_figure (l := l) hZk M0 u18 M19 hcu18) pmX12_figure tw1609 (Wd.recv hK hW (t := 12) (by decide) cz12 (C := RX12) (T := TX12) (N := 58) rfl) ⟨(show 1 + 1 ≤ F + 6 by omega), (show 8 + (3 + 11) + (22) ≤ L + 125 by omega)⟩ rfl hl.1 (Nat.le_of_ble_eq_true rfl) ⟨Nat.le_refl _, Nat.le_refl _⟩ rfl dX12_operand_151 (fun H locs hW hS => ?_)
          exact tb_vretE h hx hb hr hS hW hlk dX12_operand_154
        · have h := sh_t c17 h
          refine lv_aload_n hx hb dX12_operand_93 rfl (lv_at hl 1 rfl) ?_
          obtain ⟨b20, M21, hcb20, h⟩ := bE_a h
          refine tb_cVZ hZk hx hb hml hown hts hK hZ hW hS [] (mX12_opensOne (l := l) hZk M0 b20 M21 hcb20) pmX12_opensOne tw1601 (Wd.recv hK hW (t := 12) (by decide) cz12 (C := RX12) (T := TX12) (N := 58) rfl) ⟨(show 1 + 1 ≤ F + 6 by omega), (show 8 + (1 + 11) + (20) ≤ L + 125 by omega)⟩ rfl hl.1 (Nat.le_of_ble_eq_true rfl) ⟨Nat.le_refl _, Nat.le_refl _⟩ rfl dX12_operand_94 (fun H locs hW hS hzz => ?_)
          have hzb20 := hzz
          refine lv_if_ne (tgt := 101) hx hb dX12_operand_97 (by decide) (fun c22 => ?_) (fun c22 => ?_)
          · have h := sh_f c22 h
            refine lv_aload_n hx hb dX12_operand_101 rfl (lv_at hl 1 rfl) ?_
            obtain ⟨u23, M24, hcu23, h⟩ := bE_a h
            refine tb_cVV hZk hx hb hml hown hts hK hZ hW hS [] (hre M21 u23 M24 hcu23) pmX12_either tw1566 (Wd.recv hK hW (t := 12) (by decide) cz12 (C := RX12) (T := TX12) (N := 58) rfl) ⟨(show F + 5 + 1 ≤ F + 6 by omega), (show 8 + (1 + 11) + (L + 105) ≤ L + 125 by omega)⟩ rfl hl.1 (Nat.le_of_ble_eq_true rfl) ⟨Nat.le_refl _, Nat.le_refl _⟩ rfl dX12_operand_102 (fun H locs hW hS => ?_)
            refine lv_aload_n hx hb dX12_operand_105 rfl (lv_at hl 1 rfl) ?_
            refine gtX12_262 hx hb hts hown hK hW cz12 dX12_operand_106 ?_
            refine lv_if_lt (tgt := 113) hx hb dX12_operand_109 (by decide) (fun c25 => ?_) (fun c25 => ?_)
            · have h := sh_t c25 h
              refine lv_aload_n hx hb dX12_operand_113 rfl (lv_at hl 1 rfl) ?_
              obtain ⟨b26, hcb26, h⟩ := bd_a h
              refine tb_cVI hZk hx hb hml hown hts hK hZ hW hS [] (mX12_look (l := l) hZk M24 b26 hcb26) pmX12_look tw1590 (Wd.recv hK hW (t := 12) (by decide) cz12 (C := RX12) (T := TX12) (N := 58) rfl) ⟨(show 0 + 1 ≤ F + 6 by omega), (show 8 + (1 + 11) + (0) ≤ L + 125 by omega)⟩ rfl hl.1 (Nat.le_of_ble_eq_true rfl) ⟨Nat.le_refl _, Nat.le_refl _⟩ rfl dX12_operand_114 (fun H locs hW hS => ?_)
              refine lv_bipush (v := (41 : Int32)) hx hb dX12_operand_117 (by decide) ?_
              refine lv_icmp_eq (tgt := 127) hx hb dX12_operand_119 (by decide) (fun c27 => ?_) (fun c27 => ?_)
              · have h := sh_t c27 h
                refine lv_aload_n hx hb dX12_operand_127 rfl (lv_at hl 1 rfl) ?_
                refine lv_dup hx hb dX12_operand_128 rfl ?_
                refine gtX12_259 hx hb hts hown hK hW cz12 dX12_operand_129 ?_
                refine lv_iconst (v := (1 : Int32)) hx hb dX12_operand_132 (by decide) ?_
                refine lv_iadd hx hb dX12_operand_133 ?_
                refine lv_topi (fun v28 ev28 => ?_)
                have h := nm_a ev28 h
                refine ptX12_259 hx hb hts hown hK hW hS cz12 dX12_operand_134 (fun H locs hW hS => ?_)
                obtain ⟨M29, eM29⟩ : ∃ y, y = msI M24 1234 0 0 v28 := ⟨_, rfl⟩
                have h := nm_a eM29 h
                rw [← eM29] at hW
                refine lv_aload_n hx hb dX12_operand_137 rfl (lv_at hl 1 rfl) ?_
                refine lv_dup hx hb dX12_operand_138 rfl ?_
                refine gtX12_268 hx hb hts hown hK hW cz12 dX12_operand_139 ?_
                refine lv_iconst (v := (1 : Int32)) hx hb dX12_operand_142 (by decide) ?_
                refine lv_isub hx hb dX12_operand_143 ?_
                refine lv_topi (fun v30 ev30 => ?_)
                have h := nm_a ev30 h
                refine ptX12_268 hx hb hts hown hK hW hS cz12 dX12_operand_144 (fun H locs hW hS => ?_)
                obtain ⟨M31, eM31⟩ : ∃ y, y = msI M29 1236 0 0 v30 := ⟨_, rfl⟩
                have h := nm_a eM31 h
                rw [← eM31] at hW
                refine lv_goto (tgt := 154) hx hb dX12_operand_147 (by decide) ?_
                exact tb_vretE h hx hb hr hS hW hlk dX12_operand_154
              · have h := sh_f c27 h
                refine lv_aload_n hx hb dX12_operand_122 rfl (lv_at hl 1 rfl) ?_
                obtain ⟨u32, M33, hcu32, h⟩ := bE_a h
                refine tb_cVV hZk hx hb hml hown hts hK hZ hW hS [] (mX12_wrong (l := l) hZk M24 u32 M33 hcu32) pmX12_wrong tw1605 (Wd.recv hK hW (t := 12) (by decide) cz12 (C := RX12) (T := TX12) (N := 58) rfl) ⟨(show 0 + 1 ≤ F + 6 by omega), (show 8 + (1 + 11) + (0) ≤ L + 125 by omega)⟩ rfl hl.1 (Nat.le_of_ble_eq_true rfl) ⟨Nat.le_refl _, Nat.le_refl _⟩ rfl dX12_operand_123 (fun H locs hW hS => ?_)
                exact tb_vretE h hx hb hr hS hW hlk dX12_operand_126
            · have h := sh_f c25 h
              exact tb_vretE h hx hb hr hS hW hlk dX12_operand_112
          · have h := sh_t c22 h
            exact tb_vretE h hx hb hr hS hW hlk dX12_operand_100
      · have h := sh_t c16 h
        refine lv_aload_n hx hb dX12_operand_46 rfl (lv_at hl 1 rfl) ?_
        obtain ⟨b34, M35, hcb34, h⟩ := bE_a h
        refine tb_cVZ hZk hx hb hml hown hts hK hZ hW hS [] (mX12_opensOne (l := l) hZk M0 b34 M35 hcb34) pmX12_opensOne tw1601 (Wd.recv hK hW (t := 12) (by decide) cz12 (C := RX12) (T := TX12) (N := 58) rfl) ⟨(show 1 + 1 ≤ F + 6 by omega), (show 8 + (1 + 11) + (20) ≤ L + 125 by omega)⟩ rfl hl.1 (Nat.le_of_ble_eq_true rfl) ⟨Nat.le_refl _, Nat.le_refl _⟩ rfl dX12_operand_47 (fun H locs hW hS hzz => ?_)
        have hzb34 := hzz
        refine lv_if_ne (tgt := 54) hx hb dX12_operand_50 (by decide) (fun c36 => ?_) (fun c36 => ?_)
        · have h := sh_f c36 h
          refine lv_aload_n hx hb dX12_operand_54 rfl (lv_at hl 1 rfl) ?_
          obtain ⟨u37, M38, hcu37, h⟩ := bE_a h
          refine tb_cVV hZk hx hb hml hown hts hK hZ hW hS [] (hro M35 u37 M38 hcu37) pmX12_operand tw1586 (Wd.recv hK hW (t := 12) (by decide) cz12 (C := RX12) (T := TX12) (N := 58) rfl) ⟨(show F + 0 + 1 ≤ F + 6 by omega), (show 8 + (2 + 11) + (L + 0) ≤ L + 125 by omega)⟩ rfl hl.1 (Nat.le_of_ble_eq_true rfl) ⟨Nat.le_refl _, Nat.le_refl _⟩ rfl dX12_operand_55 (fun H locs hW hS => ?_)
          refine lv_aload_n hx hb dX12_operand_58 rfl (lv_at hl 1 rfl) ?_
          refine lv_dup hx hb dX12_operand_59 rfl ?_
          refine gtX12_268 hx hb hts hown hK hW cz12 dX12_operand_60 ?_
          refine lv_iconst (v := (1 : Int32)) hx hb dX12_operand_63 (by decide) ?_
          refine lv_isub hx hb dX12_operand_64 ?_
          refine lv_topi (fun v39 ev39 => ?_)
          have h := nm_a ev39 h
          refine ptX12_268 hx hb hts hown hK hW hS cz12 dX12_operand_65 (fun H locs hW hS => ?_)
          obtain ⟨M40, eM40⟩ : ∃ y, y = msI M38 1236 0 0 v39 := ⟨_, rfl⟩
          have h := nm_a eM40 h
          rw [← eM40] at hW
          refine lv_aload_n hx hb dX12_operand_68 rfl (lv_at hl 1 rfl) ?_
          refine lv_iload_n hx hb dX12_operand_69 rfl (lv_at hl 0 rfl) ?_
          refine lv_bipush (v := (33 : Int32)) hx hb dX12_operand_70 (by decide) ?_
          refine lv_icmp_ne (tgt := 79) hx hb dX12_operand_72 (by decide) (fun c41 => ?_) (fun c41 => ?_)
          · have h := sh_f c41 h
            refine lv_iconst (v := (4 : Int32)) hx hb dX12_operand_79 (by decide) ?_
            refine lv_iconst (v := (0 : Int32)) hx hb dX12_operand_80 (by decide) ?_
            obtain ⟨u42, M43, hcu42, h⟩ := bE_a h
            refine tb_cVV hZk hx hb hml hown hts hK hZ hW hS [.int (4 : Int32), .int (0 : Int32)] (mX12_lay (l := l) hZk (4 : Int32) (0 : Int32) M40 u42 M43 hcu42) pmX12_lay tw1597 (Wd.recv hK hW (t := 12) (by decide) cz12 (C := RX12) (T := TX12) (N := 58) rfl) ⟨(show 0 + 1 ≤ F + 6 by omega), (show 8 + (3 + 11) + (0) ≤ L + 125 by omega)⟩ rfl hl.1 (Nat.le_of_ble_eq_true rfl) ⟨Nat.le_refl _, Nat.le_refl _⟩ rfl dX12_operand_81 (fun H locs hW hS => ?_)
            refine lv_goto (tgt := 154) hx hb dX12_operand_84 (by decide) ?_
            exact tb_vretE h hx hb hr hS hW hlk dX12_operand_154
          · have h := sh_t c41 h
            refine lv_iconst (v := (3 : Int32)) hx hb dX12_operand_75 (by decide) ?_
            refine lv_goto (tgt := 80) hx hb dX12_operand_76 (by decide) ?_
            refine lv_iconst (v := (0 : Int32)) hx hb dX12_operand_80 (by decide) ?_
            obtain ⟨u44, M45, hcu44, h⟩ := bE_a h
            refine tb_cVV hZk hx hb hml hown hts hK hZ hW hS [.int (3 : Int32), .int (0 : Int32)] (mX12_lay (l := l) hZk (3 : Int32) (0 : Int32) M40 u44 M45 hcu44) pmX12_lay tw1597 (Wd.recv hK hW (t := 12) (by decide) cz12 (C := RX12) (T := TX12) (N := 58) rfl) ⟨(show 0 + 1 ≤ F + 6 by omega), (show 8 + (3 + 11) + (0) ≤ L + 125 by omega)⟩ rfl hl.1 (Nat.le_of_ble_eq_true rfl) ⟨Nat.le_refl _, Nat.le_refl _⟩ rfl dX12_operand_81 (fun H locs hW hS => ?_)
            refine lv_goto (tgt := 154) hx hb dX12_operand_84 (by decide) ?_
            exact tb_vretE h hx hb hr hS hW hlk dX12_operand_154
        · have h := sh_t c36 h
          exact tb_vretE h hx hb hr hS hW hlk dX12_operand_53
  · have h := sh_f c2 h
    refine lv_aload_n hx hb dX12_operand_12 rfl (lv_at hl 1 rfl) ?_
    refine lv_iconst (v := (2 : Int32)) hx hb dX12_operand_13 (by decide) ?_
    refine lv_iload_n hx hb dX12_operand_14 rfl (lv_at hl 0 rfl) ?_
    refine tb_cSI hZk hx hb hml hown hts hK hZ hW hS [.int b1] (mX12_nameOf (l := l) hZk b1 M0 (fX12_nameOf b1) rfl) pmX12_nameOf tw1594 ⟨(show 0 + 1 ≤ F + 6 by omega), (show 8 + (1 + 11) + (0) ≤ L + 125 by omega)⟩ rfl hl.1 (Nat.le_of_ble_eq_true rfl) ⟨Nat.le_refl _, Nat.le_refl _⟩ rfl dX12_operand_15 (fun H locs hW hS => ?_)
    obtain ⟨u46, M47, hcu46, h⟩ := bE_a h
    refine tb_cVV hZk hx hb hml hown hts hK hZ hW hS [.int (2 : Int32), .int (fX12_nameOf b1)] (mX12_lay (l := l) hZk (2 : Int32) (fX12_nameOf b1) M0 u46 M47 hcu46) pmX12_lay tw1597 (Wd.recv hK hW (t := 12) (by decide) cz12 (C := RX12) (T := TX12) (N := 58) rfl) ⟨(show 0 + 1 ≤ F + 6 by omega), (show 8 + (3 + 11) + (0) ≤ L + 125 by omega)⟩ rfl hl.1 (Nat.le_of_ble_eq_true rfl) ⟨Nat.le_refl _, Nat.le_refl _⟩ rfl dX12_operand_18 (fun H locs hW hS => ?_)
    refine lv_aload_n hx hb dX12_operand_21 rfl (lv_at hl 1 rfl) ?_
    refine lv_dup hx hb dX12_operand_22 rfl ?_
    refine gtX12_259 hx hb hts hown hK hW cz12 dX12_operand_23 ?_
    refine lv_iconst (v := (1 : Int32)) hx hb dX12_operand_26 (by decide) ?_
    refine lv_iadd hx hb dX12_operand_27 ?_
    refine lv_topi (fun v48 ev48 => ?_)
    have h := nm_a ev48 h
    refine ptX12_259 hx hb hts hown hK hW hS cz12 dX12_operand_28 (fun H locs hW hS => ?_)
    obtain ⟨M49, eM49⟩ : ∃ y, y = msI M47 1234 0 0 v48 := ⟨_, rfl⟩
    have h := nm_a eM49 h
    rw [← eM49] at hW
    refine lv_goto (tgt := 154) hx hb dX12_operand_31 (by decide) ?_
    exact tb_vretE h hx hb hr hS hW hlk dX12_operand_154
def fX12_opN : Nat → Mem → Option (Unit × Mem)
  | 0, _ => none
  | n + 1, M => fX12_operand (fX12_either (fX12_opN n)) (fX12_opN n) M
theorem mX12_opN {l : Launch} {D : va_G} {cy : Nat → ClassId} {A : Nat → Prop} {Z : State → Heap → Prop} {ad : Nat → Nat → Nat} (hZk : ZOK A Z) (n : Nat) : ∀  (M0 : Mem) (r : Unit) (M' : Mem), fX12_opN n M0 = some (r, M') → Met l yX12_operand (wt yX12_operand cX12_operand 2 none) (rm (6 * n) (125 * n)) (CPre D cy A Z cnM ad M0 [.ref (ad 12 0)]) (QV D cy A cnM ad r M') 0 0 A := by
  induction n with
  | zero => intro M0 r M' h; cases h
  | succ n ih => intro M0 r M' h; exact mX12_operand hZk _ _ M0 (6 * n) (125 * n) ih (fun M1 r1 M2 h1 => mX12_either hZk (fX12_opN n) M1 (6 * n) (125 * n) ih r1 M2 h1) r M' h
def fX12_eitherT (M : Mem) : Option (Unit × Mem) := fX12_either (fX12_opN 8) M
theorem mX12_eitherT {l : Launch} {D : va_G} {cy : Nat → ClassId} {A : Nat → Prop} {Z : State → Heap → Prop} {ad : Nat → Nat → Nat} (hZk : ZOK A Z) (M0 : Mem) (r : Unit) (M' : Mem) (h : fX12_eitherT M0 = some (r, M')) : Met l yX12_either (wt yX12_either cX12_either 1 none) (rm 53 1105) (CPre D cy A Z cnM ad M0 [.ref (ad 12 0)]) (QV D cy A cnM ad r M') 0 0 A := mX12_either hZk (fX12_opN 8) M0 (6 * 8) (125 * 8) (mX12_opN hZk 8) r M' h
def fX12_readLine (M0 : Mem) : Option (Unit × Mem) :=
  nm ((122 : Int32) + (mgI M0 7900 0 (2 : Int32).toNatClampNeg)) fun v1 => nm ((mgI M0 1237 0 0).toInt16.toInt32) fun v2 => ix v1 183 <| nm (msI M0 8000 0 v1.toNatClampNeg (vp_nar .short v2)) fun M3 => bE (fX12_eitherT M3) fun u4 M5 => if 0 ≤ (mgI M5 1235 0 0) then (nm ((mgI M5 1237 0 0).toInt16.toInt32) fun v7 => ix v1 183 <| nm (msI M5 8100 0 v1.toNatClampNeg (vp_nar .short v7)) fun M8 => nm ((mgI M8 7900 0 (2 : Int32).toNatClampNeg) + (1 : Int32)) fun v9 => nm (msI M8 7900 0 ((2 : Int32).toNatClampNeg) v9) fun M10 => some ((), M10)) else (bd (fX12_look M5) fun b11 => if b11 = (63 : Int32) then (nm ((mgI M5 1234 0 0) + (1 : Int32)) fun v17 => nm (msI M5 1234 0 0 v17) fun M18 => nm ((mgI M18 1237 0 0).toInt16.toInt32) fun v19 => ix v1 183 <| nm (msI M18 8000 0 v1.toNatClampNeg (vp_nar .short v19)) fun M20 => bE (fX12_eitherT M20) fun u21 M22 => nm ((mgI M22 1237 0 0).toInt16.toInt32) fun v23 => ix v1 183 <| nm (msI M22 8100 0 v1.toNatClampNeg (vp_nar .short v23)) fun M24 => nm ((mgI M24 7900 0 (2 : Int32).toNatClampNeg) + (1 : Int32)) fun v25 => nm (msI M24 7900 0 ((2 : Int32).toNatClampNeg) v25) fun M26 => some ((), M26)) else (nm ((mgI M5 1237 0 0).toInt16.toInt32) fun v13 => ix v1 183 <| nm (msI M5 8100 0 v1.toNatClampNeg (vp_nar .short v13)) fun M14 => nm ((mgI M14 7900 0 (2 : Int32).toNatClampNeg) + (1 : Int32)) fun v15 => nm (msI M14 7900 0 ((2 : Int32).toNatClampNeg) v15) fun M16 => some ((), M16)))
set_option maxHeartbeats 4000000 in
set_option maxRecDepth 100000 in
theorem mX12_readLine {l : Launch} {D : va_G} {cy : Nat → ClassId} {A : Nat → Prop} {Z : State → Heap → Prop} {ad : Nat → Nat → Nat} (hZk : ZOK A Z) (M0 : Mem) (r : Unit) (M' : Mem) (h : fX12_readLine M0 = some (r, M')) : Met l yX12_readLine (wt yX12_readLine cX12_readLine 2 none) (rm 54 1125) (CPre D cy A Z cnM ad M0 [.ref (ad 12 0)]) (QV D cy A cnM ad r M') 0 0 A := by
  refine tb_start [.ref (ad 12 0)] [(0, .ref (ad 12 0))] RX12 rfl (by decide +kernel) (Nat.le_of_ble_eq_true rfl) rfl (fun p e s m args below meth c hx hb hr hml hown hts hlk hW hK hZ ls hl => ?_)
  have hS : va_S A s.heap s.heap [] := va_S.rf
  unfold fX12_readLine at h
  refine lv_bipush (v := (122 : Int32)) hx hb dX12_readLine_0 (by decide) ?_
  refine lv_aload_n hx hb dX12_readLine_2 rfl (lv_at hl 0 rfl) ?_
  refine gtX12_100 hx hb hts hown hK hW cz12 dX12_readLine_3 ?_
  refine lv_iconst (v := (2 : Int32)) hx hb dX12_readLine_6 (by decide) ?_
  refine al79 hx hb hK hW cz79 (vp_in_iff.mpr (by decide)) dX12_readLine_7 ?_
  refine lv_iadd hx hb dX12_readLine_8 ?_
  refine lv_topi (fun v1 ev1 => ?_)
  have h := nm_a ev1 h
  refine lv_istore_n (lv' := [(1, .int v1), (0, .ref (ad 12 0))]) hx hb dX12_readLine_9 rfl hl (by decide) rfl (fun ls hl => ?_)
  refine lv_aload_n hx hb dX12_readLine_10 rfl (lv_at hl 1 rfl) ?_
  refine gtX12_103 hx hb hts hown hK hW cz12 dX12_readLine_11 ?_
  refine lv_iload_n hx hb dX12_readLine_14 rfl (lv_at hl 0 rfl) ?_
  refine lv_aload_n hx hb dX12_readLine_15 rfl (lv_at hl 1 rfl) ?_
  refine gtX12_265 hx hb hts hown hK hW cz12 dX12_readLine_16 ?_
  refine lv_i2s hx hb dX12_readLine_19 rfl ?_
  refine lv_topi (fun v2 ev2 => ?_)
  have h := nm_a ev2 h
  obtain ⟨hj, h⟩ := ix_a h
  refine as80 hx hb hK hW hS cz80 hj dX12_readLine_20 (fun H locs hW hS => ?_)
  obtain ⟨M3, eM3⟩ : ∃ y, y = msI M0 8000 0 v1.toNatClampNeg (vp_nar .short v2) := ⟨_, rfl⟩
  have h := nm_a eM3 h
  rw [← eM3] at hW
  refine lv_aload_n hx hb dX12_readLine_21 rfl (lv_at hl 1 rfl) ?_
  obtain ⟨u4, M5, hcu4, h⟩ := bE_a h
  refine tb_cVV hZk hx hb hml hown hts hK hZ hW hS [] (mX12_eitherT (l := l) hZk M3 u4 M5 hcu4) pmX12_either tw1566 (Wd.recv hK hW (t := 12) (by decide) cz12 (C := RX12) (T := TX12) (N := 58) rfl) ⟨Nat.le_of_ble_eq_true rfl, Nat.le_of_ble_eq_true rfl⟩ rfl hl.1 (Nat.le_of_ble_eq_true rfl) ⟨Nat.le_refl _, Nat.le_refl _⟩ rfl dX12_readLine_22 (fun H locs hW hS => ?_)
  refine lv_aload_n hx hb dX12_readLine_25 rfl (lv_at hl 1 rfl) ?_
  refine gtX12_262 hx hb hts hown hK hW cz12 dX12_readLine_26 ?_
  refine lv_if_ge (tgt := 66) hx hb dX12_readLine_29 (by decide) (fun c6 => ?_) (fun c6 => ?_)
  · have h := sh_t c6 h
    refine lv_aload_n hx hb dX12_readLine_66 rfl (lv_at hl 1 rfl) ?_
    refine gtX12_107 hx hb hts hown hK hW cz12 dX12_readLine_67 ?_
    refine lv_iload_n hx hb dX12_readLine_70 rfl (lv_at hl 0 rfl) ?_
    refine lv_aload_n hx hb dX12_readLine_71 rfl (lv_at hl 1 rfl) ?_
    refine gtX12_265 hx hb hts hown hK hW cz12 dX12_readLine_72 ?_
    refine lv_i2s hx hb dX12_readLine_75 rfl ?_
    refine lv_topi (fun v7 ev7 => ?_)
    have h := nm_a ev7 h
    obtain ⟨hj, h⟩ := ix_a h
    refine as81 hx hb hK hW hS cz81 hj dX12_readLine_76 (fun H locs hW hS => ?_)
    obtain ⟨M8, eM8⟩ : ∃ y, y = msI M5 8100 0 v1.toNatClampNeg (vp_nar .short v7) := ⟨_, rfl⟩
    have h := nm_a eM8 h
    rw [← eM8] at hW
    refine lv_aload_n hx hb dX12_readLine_77 rfl (lv_at hl 1 rfl) ?_
    refine gtX12_100 hx hb hts hown hK hW cz12 dX12_readLine_78 ?_
    refine lv_iconst (v := (2 : Int32)) hx hb dX12_readLine_81 (by decide) ?_
    refine lv_dup2_11 hx hb dX12_readLine_82 rfl rfl ?_
    refine al79 hx hb hK hW cz79 (vp_in_iff.mpr (by decide)) dX12_readLine_83 ?_
    refine lv_iconst (v := (1 : Int32)) hx hb dX12_readLine_84 (by decide) ?_
    refine lv_iadd hx hb dX12_readLine_85 ?_
    refine lv_topi (fun v9 ev9 => ?_)
    have h := nm_a ev9 h
    refine as79 hx hb hK hW hS cz79 (vp_in_iff.mpr (by decide)) dX12_readLine_86 (fun H locs hW hS => ?_)
    obtain ⟨M10, eM10⟩ : ∃ y, y = msI M8 7900 0 ((2 : Int32).toNatClampNeg) v9 := ⟨_, rfl⟩
    have h := nm_a eM10 h
    rw [← eM10] at hW
    exact tb_vretE h hx hb hr hS hW hlk dX12_readLine_87
  · have h := sh_f c6 h
    refine lv_aload_n hx hb dX12_readLine_32 rfl (lv_at hl 1 rfl) ?_
    obtain ⟨b11, hcb11, h⟩ := bd_a h
    refine tb_cVI hZk hx hb hml hown hts hK hZ hW hS [] (mX12_look (l := l) hZk M5 b11 hcb11) pmX12_look tw1590 (Wd.recv hK hW (t := 12) (by decide) cz12 (C := RX12) (T := TX12) (N := 58) rfl) ⟨Nat.le_of_ble_eq_true rfl, Nat.le_of_ble_eq_true rfl⟩ rfl hl.1 (Nat.le_of_ble_eq_true rfl) ⟨Nat.le_refl _, Nat.le_refl _⟩ rfl dX12_readLine_33 (fun H locs hW hS => ?_)
    refine lv_bipush (v := (63 : Int32)) hx hb dX12_readLine_36 (by decide) ?_
    refine lv_icmp_ne (tgt := 66) hx hb dX12_readLine_38 (by decide) (fun c12 => ?_) (fun c12 => ?_)
    · have h := sh_f c12 h
      refine lv_aload_n hx hb dX12_readLine_66 rfl (lv_at hl 1 rfl) ?_
      refine gtX12_107 hx hb hts hown hK hW cz12 dX12_readLine_67 ?_
      refine lv_iload_n hx hb dX12_readLine_70 rfl (lv_at hl 0 rfl) ?_
      refine lv_aload_n hx hb dX12_readLine_71 rfl (lv_at hl 1 rfl) ?_
      refine gtX12_265 hx hb hts hown hK hW cz12 dX12_readLine_72 ?_
      refine lv_i2s hx hb dX12_readLine_75 rfl ?_
      refine lv_topi (fun v13 ev13 => ?_)
      have h := nm_a ev13 h
      obtain ⟨hj, h⟩ := ix_a h
      refine as81 hx hb hK hW hS cz81 hj dX12_readLine_76 (fun H locs hW hS => ?_)
      obtain ⟨M14, eM14⟩ : ∃ y, y = msI M5 8100 0 v1.toNatClampNeg (vp_nar .short v13) := ⟨_, rfl⟩
      have h := nm_a eM14 h
      rw [← eM14] at hW
      refine lv_aload_n hx hb dX12_readLine_77 rfl (lv_at hl 1 rfl) ?_
      refine gtX12_100 hx hb hts hown hK hW cz12 dX12_readLine_78 ?_
      refine lv_iconst (v := (2 : Int32)) hx hb dX12_readLine_81 (by decide) ?_
      refine lv_dup2_11 hx hb dX12_readLine_82 rfl rfl ?_
      refine al79 hx hb hK hW cz79 (vp_in_iff.mpr (by decide)) dX12_readLine_83 ?_
      refine lv_iconst (v := (1 : Int32)) hx hb dX12_readLine_84 (by decide) ?_
      refine lv_iadd hx hb dX12_readLine_85 ?_
      refine lv_topi (fun v15 ev15 => ?_)
      have h := nm_a ev15 h
      refine as79 hx hb hK hW hS cz79 (vp_in_iff.mpr (by decide)) dX12_readLine_86 (fun H locs hW hS => ?_)
      obtain ⟨M16, eM16⟩ : ∃ y, y = msI M14 7900 0 ((2 : Int32).toNatClampNeg) v15 := ⟨_, rfl⟩
      have h := nm_a eM16 h
      rw [← eM16] at hW
      exact tb_vretE h hx hb hr hS hW hlk dX12_readLine_87
    · have h := sh_t c12 h
      refine lv_aload_n hx hb dX12_readLine_41 rfl (lv_at hl 1 rfl) ?_
      refine lv_dup hx hb dX12_readLine_42 rfl ?_
      refine gtX12_259 hx hb hts hown hK hW cz12 dX12_readLine_43 ?_
      refine lv_iconst (v := (1 : Int32)) hx hb dX12_readLine_46 (by decide) ?_
      refine lv_iadd hx hb dX12_readLine_47 ?_
      refine lv_topi (fun v17 ev17 => ?_)
      have h := nm_a ev17 h
      refine ptX12_259 hx hb hts hown hK hW hS cz12 dX12_readLine_48 (fun H locs hW hS => ?_)
      obtain ⟨M18, eM18⟩ : ∃ y, y = msI M5 1234 0 0 v17 := ⟨_, rfl⟩
      have h := nm_a eM18 h
      rw [← eM18] at hW
      refine lv_aload_n hx hb dX12_readLine_51 rfl (lv_at hl 1 rfl) ?_
      refine gtX12_103 hx hb hts hown hK hW cz12 dX12_readLine_52 ?_
      refine lv_iload_n hx hb dX12_readLine_55 rfl (lv_at hl 0 rfl) ?_
      refine lv_aload_n hx hb dX12_readLine_56 rfl (lv_at hl 1 rfl) ?_
      refine gtX12_265 hx hb hts hown hK hW cz12 dX12_readLine_57 ?_
      refine lv_i2s hx hb dX12_readLine_60 rfl ?_
      refine lv_topi (fun v19 ev19 => ?_)
      have h := nm_a ev19 h
      obtain ⟨hj, h⟩ := ix_a h
      refine as80 hx hb hK hW hS cz80 hj dX12_readLine_61 (fun H locs hW hS => ?_)
      obtain ⟨M20, eM20⟩ : ∃ y, y = msI M18 8000 0 v1.toNatClampNeg (vp_nar .short v19) := ⟨_, rfl⟩
      have h := nm_a eM20 h
      rw [← eM20] at hW
      refine lv_aload_n hx hb dX12_readLine_62 rfl (lv_at hl 1 rfl) ?_
      obtain ⟨u21, M22, hcu21, h⟩ := bE_a h
      refine tb_cVV hZk hx hb hml hown hts hK hZ hW hS [] (mX12_eitherT (l := l) hZk M20 u21 M22 hcu21) pmX12_either tw1566 (Wd.recv hK hW (t := 12) (by decide) cz12 (C := RX12) (T := TX12) (N := 58) rfl) ⟨Nat.le_of_ble_eq_true rfl, Nat.le_of_ble_eq_true rfl⟩ rfl hl.1 (Nat.le_of_ble_eq_true rfl) ⟨Nat.le_refl _, Nat.le_refl _⟩ rfl dX12_readLine_63 (fun H locs hW hS => ?_)
      refine lv_aload_n hx hb dX12_readLine_66 rfl (lv_at hl 1 rfl) ?_
      refine gtX12_107 hx hb hts hown hK hW cz12 dX12_readLine_67 ?_
      refine lv_iload_n hx hb dX12_readLine_70 rfl (lv_at hl 0 rfl) ?_
      refine lv_aload_n hx hb dX12_readLine_71 rfl (lv_at hl 1 rfl) ?_
      refine gtX12_265 hx hb hts hown hK hW cz12 dX12_readLine_72 ?_
      refine lv_i2s hx hb dX12_readLine_75 rfl ?_
      refine lv_topi (fun v23 ev23 => ?_)
      have h := nm_a ev23 h
      obtain ⟨hj, h⟩ := ix_a h
      refine as81 hx hb hK hW hS cz81 hj dX12_readLine_76 (fun H locs hW hS => ?_)
      obtain ⟨M24, eM24⟩ : ∃ y, y = msI M22 8100 0 v1.toNatClampNeg (vp_nar .short v23) := ⟨_, rfl⟩
      have h := nm_a eM24 h
      rw [← eM24] at hW
      refine lv_aload_n hx hb dX12_readLine_77 rfl (lv_at hl 1 rfl) ?_
      refine gtX12_100 hx hb hts hown hK hW cz12 dX12_readLine_78 ?_
      refine lv_iconst (v := (2 : Int32)) hx hb dX12_readLine_81 (by decide) ?_
      refine lv_dup2_11 hx hb dX12_readLine_82 rfl rfl ?_
      refine al79 hx hb hK hW cz79 (vp_in_iff.mpr (by decide)) dX12_readLine_83 ?_
      refine lv_iconst (v := (1 : Int32)) hx hb dX12_readLine_84 (by decide) ?_
      refine lv_iadd hx hb dX12_readLine_85 ?_
      refine lv_topi (fun v25 ev25 => ?_)
      have h := nm_a ev25 h
      refine as79 hx hb hK hW hS cz79 (vp_in_iff.mpr (by decide)) dX12_readLine_86 (fun H locs hW hS => ?_)
      obtain ⟨M26, eM26⟩ : ∃ y, y = msI M24 7900 0 ((2 : Int32).toNatClampNeg) v25 := ⟨_, rfl⟩
      have h := nm_a eM26 h
      rw [← eM26] at hW
      exact tb_vretE h hx hb hr hS hW hlk dX12_readLine_87
def fX12_text_b191 (x1 : Int32) (k22 : Int32 → Mem → Option (Int32 × Mem)) (i23 : Int32) (M24 : Mem) : Option (Int32 × Mem) :=
  ix x1 3 <| if (mgI M24 7900 0 x1.toNatClampNeg) ≤ i23 then (some ((1 : Int32), M24)) else (ix ((122 : Int32) + i23) 183 <| nm (mgI M24 8000 0 ((122 : Int32) + i23).toNatClampNeg) fun v26 => ix (((61 : Int32) * x1) + i23) 183 <| nm (msI M24 8000 0 ((((61 : Int32) * x1) + i23).toNatClampNeg) (vp_nar .short v26)) fun M27 => ix ((122 : Int32) + i23) 183 <| nm (mgI M27 8100 0 ((122 : Int32) + i23).toNatClampNeg) fun v28 => ix (((61 : Int32) * x1) + i23) 183 <| nm (msI M27 8100 0 ((((61 : Int32) * x1) + i23).toNatClampNeg) (vp_nar .short v28)) fun M29 => nm (i23 + (1 : Int32)) fun v30 => k22 v30 M29)
def fX12_text_l191 (x1 : Int32) : Nat → Int32 → Mem → Option (Int32 × Mem)
  | 0, _, _ => none
  | n + 1, i23, M24 => fX12_text_b191 x1 (fX12_text_l191 x1 n) i23 M24
def fX12_text_b119 (x1 : Int32) (k16 : Int32 → Mem → Option (Int32 × Mem)) (i17 : Int32) (M18 : Mem) : Option (Int32 × Mem) :=
  if (mgI M18 1237 0 0) ≤ i17 then (nm (mgI M18 7900 0 (2 : Int32).toNatClampNeg) fun v20 => ix x1 3 <| nm (msI M18 7900 0 x1.toNatClampNeg v20) fun M21 => fX12_text_l191 x1 FU (0 : Int32) M21) else (ix ((260 : Int32) + i17) 390 <| nm (mgI M18 7700 0 ((260 : Int32) + i17).toNatClampNeg) fun v31 => ix (((130 : Int32) * x1) + i17) 390 <| nm (msI M18 7700 0 ((((130 : Int32) * x1) + i17).toNatClampNeg) (vp_nar .byte v31)) fun M32 => ix ((260 : Int32) + i17) 390 <| nm (mgI M32 7800 0 ((260 : Int32) + i17).toNatClampNeg) fun v33 => ix (((130 : Int32) * x1) + i17) 390 <| nm (msI M32 7800 0 ((((130 : Int32) * x1) + i17).toNatClampNeg) v33) fun M34 => nm (i17 + (1 : Int32)) fun v35 => k16 v35 M34)
def fX12_text_l119 (x1 : Int32) : Nat → Int32 → Mem → Option (Int32 × Mem)
  | 0, _, _ => none
  | n + 1, i17, M18 => fX12_text_b119 x1 (fX12_text_l119 x1 n) i17 M18
def fX12_text_b191_45 (x1 : Int32) (k45 : Int32 → Mem → Option (Int32 × Mem)) (i46 : Int32) (M47 : Mem) : Option (Int32 × Mem) :=
  ix x1 3 <| if (mgI M47 7900 0 x1.toNatClampNeg) ≤ i46 then (some ((1 : Int32), M47)) else (ix ((122 : Int32) + i46) 183 <| nm (mgI M47 8000 0 ((122 : Int32) + i46).toNatClampNeg) fun v49 => ix (((61 : Int32) * x1) + i46) 183 <| nm (msI M47 8000 0 ((((61 : Int32) * x1) + i46).toNatClampNeg) (vp_nar .short v49)) fun M50 => ix ((122 : Int32) + i46) 183 <| nm (mgI M50 8100 0 ((122 : Int32) + i46).toNatClampNeg) fun v51 => ix (((61 : Int32) * x1) + i46) 183 <| nm (msI M50 8100 0 ((((61 : Int32) * x1) + i46).toNatClampNeg) (vp_nar .short v51)) fun M52 => nm (i46 + (1 : Int32)) fun v53 => k45 v53 M52)
def fX12_text_l191_45 (x1 : Int32) : Nat → Int32 → Mem → Option (Int32 × Mem)
  | 0, _, _ => none
  | n + 1, i46, M47 => fX12_text_b191_45 x1 (fX12_text_l191_45 x1 n) i46 M47
def fX12_text_b119_39 (x1 : Int32) (k39 : Int32 → Mem → Option (Int32 × Mem)) (i40 : Int32) (M41 : Mem) : Option (Int32 × Mem) :=
  if (mgI M41 1237 0 0) ≤ i40 then (nm (mgI M41 7900 0 (2 : Int32).toNatClampNeg) fun v43 => ix x1 3 <| nm (msI M41 7900 0 x1.toNatClampNeg v43) fun M44 => fX12_text_l191_45 x1 FU (0 : Int32) M44) else (ix ((260 : Int32) + i40) 390 <| nm (mgI M41 7700 0 ((260 : Int32) + i40).toNatClampNeg) fun v54 => ix (((130 : Int32) * x1) + i40) 390 <| nm (msI M41 7700 0 ((((130 : Int32) * x1) + i40).toNatClampNeg) (vp_nar .byte v54)) fun M55 => ix ((260 : Int32) + i40) 390 <| nm (mgI M55 7800 0 ((260 : Int32) + i40).toNatClampNeg) fun v56 => ix (((130 : Int32) * x1) + i40) 390 <| nm (msI M55 7800 0 ((((130 : Int32) * x1) + i40).toNatClampNeg) v56) fun M57 => nm (i40 + (1 : Int32)) fun v58 => k39 v58 M57)
def fX12_text_l119_39 (x1 : Int32) : Nat → Int32 → Mem → Option (Int32 × Mem)
  | 0, _, _ => none
  | n + 1, i40, M41 => fX12_text_b119_39 x1 (fX12_text_l119_39 x1 n) i40 M41
def fX12_text_b191_69 (x1 : Int32) (k69 : Int32 → Mem → Option (Int32 × Mem)) (i70 : Int32) (M71 : Mem) : Option (Int32 × Mem) :=
  ix x1 3 <| if (mgI M71 7900 0 x1.toNatClampNeg) ≤ i70 then (some ((1 : Int32), M71)) else (ix ((122 : Int32) + i70) 183 <| nm (mgI M71 8000 0 ((122 : Int32) + i70).toNatClampNeg) fun v73 => ix (((61 : Int32) * x1) + i70) 183 <| nm (msI M71 8000 0 ((((61 : Int32) * x1) + i70).toNatClampNeg) (vp_nar .short v73)) fun M74 => ix ((122 : Int32) + i70) 183 <| nm (mgI M74 8100 0 ((122 : Int32) + i70).toNatClampNeg) fun v75 => ix (((61 : Int32) * x1) + i70) 183 <| nm (msI M74 8100 0 ((((61 : Int32) * x1) + i70).toNatClampNeg) (vp_nar .short v75)) fun M76 => nm (i70 + (1 : Int32)) fun v77 => k69 v77 M76)
def fX12_text_l191_69 (x1 : Int32) : Nat → Int32 → Mem → Option (Int32 × Mem)
  | 0, _, _ => none
  | n + 1, i70, M71 => fX12_text_b191_69 x1 (fX12_text_l191_69 x1 n) i70 M71
def fX12_text_b119_63 (x1 : Int32) (k63 : Int32 → Mem → Option (Int32 × Mem)) (i64 : Int32) (M65 : Mem) : Option (Int32 × Mem) :=
  if (mgI M65 1237 0 0) ≤ i64 then (nm (mgI M65 7900 0 (2 : Int32).toNatClampNeg) fun v67 => ix x1 3 <| nm (msI M65 7900 0 x1.toNatClampNeg v67) fun M68 => fX12_text_l191_69 x1 FU (0 : Int32) M68) else (ix ((260 : Int32) + i64) 390 <| nm (mgI M65 7700 0 ((260 : Int32) + i64).toNatClampNeg) fun v78 => ix (((130 : Int32) * x1) + i64) 390 <| nm (msI M65 7700 0 ((((130 : Int32) * x1) + i64).toNatClampNeg) (vp_nar .byte v78)) fun M79 => ix ((260 : Int32) + i64) 390 <| nm (mgI M79 7800 0 ((260 : Int32) + i64).toNatClampNeg) fun v80 => ix (((130 : Int32) * x1) + i64) 390 <| nm (msI M79 7800 0 ((((130 : Int32) * x1) + i64).toNatClampNeg) v80) fun M81 => nm (i64 + (1 : Int32)) fun v82 => k63 v82 M81)
def fX12_text_l119_63 (x1 : Int32) : Nat → Int32 → Mem → Option (Int32 × Mem)
  | 0, _, _ => none
  | n + 1, i64, M65 => fX12_text_b119_63 x1 (fX12_text_l119_63 x1 n) i64 M65
def fX12_text_b191_94 (x1 : Int32) (k94 : Int32 → Mem → Option (Int32 × Mem)) (i95 : Int32) (M96 : Mem) : Option (Int32 × Mem) :=
  ix x1 3 <| if (mgI M96 7900 0 x1.toNatClampNeg) ≤ i95 then (some ((1 : Int32), M96)) else (ix ((122 : Int32) + i95) 183 <| nm (mgI M96 8000 0 ((122 : Int32) + i95).toNatClampNeg) fun v98 => ix (((61 : Int32) * x1) + i95) 183 <| nm (msI M96 8000 0 ((((61 : Int32) * x1) + i95).toNatClampNeg) (vp_nar .short v98)) fun M99 => ix ((122 : Int32) + i95) 183 <| nm (mgI M99 8100 0 ((122 : Int32) + i95).toNatClampNeg) fun v100 => ix (((61 : Int32) * x1) + i95) 183 <| nm (msI M99 8100 0 ((((61 : Int32) * x1) + i95).toNatClampNeg) (vp_nar .short v100)) fun M101 => nm (i95 + (1 : Int32)) fun v102 => k94 v102 M101)
def fX12_text_l191_94 (x1 : Int32) : Nat → Int32 → Mem → Option (Int32 × Mem)
  | 0, _, _ => none
  | n + 1, i95, M96 => fX12_text_b191_94 x1 (fX12_text_l191_94 x1 n) i95 M96
def fX12_text_b119_88 (x1 : Int32) (k88 : Int32 → Mem → Option (Int32 × Mem)) (i89 : Int32) (M90 : Mem) : Option (Int32 × Mem) :=
  if (mgI M90 1237 0 0) ≤ i89 then (nm (mgI M90 7900 0 (2 : Int32).toNatClampNeg) fun v92 => ix x1 3 <| nm (msI M90 7900 0 x1.toNatClampNeg v92) fun M93 => fX12_text_l191_94 x1 FU (0 : Int32) M93) else (ix ((260 : Int32) + i89) 390 <| nm (mgI M90 7700 0 ((260 : Int32) + i89).toNatClampNeg) fun v103 => ix (((130 : Int32) * x1) + i89) 390 <| nm (msI M90 7700 0 ((((130 : Int32) * x1) + i89).toNatClampNeg) (vp_nar .byte v103)) fun M104 => ix ((260 : Int32) + i89) 390 <| nm (mgI M104 7800 0 ((260 : Int32) + i89).toNatClampNeg) fun v105 => ix (((130 : Int32) * x1) + i89) 390 <| nm (msI M104 7800 0 ((((130 : Int32) * x1) + i89).toNatClampNeg) v105) fun M106 => nm (i89 + (1 : Int32)) fun v107 => k88 v107 M106)
def fX12_text_l119_88 (x1 : Int32) : Nat → Int32 → Mem → Option (Int32 × Mem)
  | 0, _, _ => none
  | n + 1, i89, M90 => fX12_text_b119_88 x1 (fX12_text_l119_88 x1 n) i89 M90
def fX12_text_b191_117 (x1 : Int32) (k117 : Int32 → Mem → Option (Int32 × Mem)) (i118 : Int32) (M119 : Mem) : Option (Int32 × Mem) :=
  ix x1 3 <| if (mgI M119 7900 0 x1.toNatClampNeg) ≤ i118 then (some ((1 : Int32), M119)) else (ix ((122 : Int32) + i118) 183 <| nm (mgI M119 8000 0 ((122 : Int32) + i118).toNatClampNeg) fun v121 => ix (((61 : Int32) * x1) + i118) 183 <| nm (msI M119 8000 0 ((((61 : Int32) * x1) + i118).toNatClampNeg) (vp_nar .short v121)) fun M122 => ix ((122 : Int32) + i118) 183 <| nm (mgI M122 8100 0 ((122 : Int32) + i118).toNatClampNeg) fun v123 => ix (((61 : Int32) * x1) + i118) 183 <| nm (msI M122 8100 0 ((((61 : Int32) * x1) + i118).toNatClampNeg) (vp_nar .short v123)) fun M124 => nm (i118 + (1 : Int32)) fun v125 => k117 v125 M124)
def fX12_text_l191_117 (x1 : Int32) : Nat → Int32 → Mem → Option (Int32 × Mem)
  | 0, _, _ => none
  | n + 1, i118, M119 => fX12_text_b191_117 x1 (fX12_text_l191_117 x1 n) i118 M119
def fX12_text_b119_111 (x1 : Int32) (k111 : Int32 → Mem → Option (Int32 × Mem)) (i112 : Int32) (M113 : Mem) : Option (Int32 × Mem) :=
  if (mgI M113 1237 0 0) ≤ i112 then (nm (mgI M113 7900 0 (2 : Int32).toNatClampNeg) fun v115 => ix x1 3 <| nm (msI M113 7900 0 x1.toNatClampNeg v115) fun M116 => fX12_text_l191_117 x1 FU (0 : Int32) M116) else (ix ((260 : Int32) + i112) 390 <| nm (mgI M113 7700 0 ((260 : Int32) + i112).toNatClampNeg) fun v126 => ix (((130 : Int32) * x1) + i112) 390 <| nm (msI M113 7700 0 ((((130 : Int32) * x1) + i112).toNatClampNeg) (vp_nar .byte v126)) fun M127 => ix ((260 : Int32) + i112) 390 <| nm (mgI M127 7800 0 ((260 : Int32) + i112).toNatClampNeg) fun v128 => ix (((130 : Int32) * x1) + i112) 390 <| nm (msI M127 7800 0 ((((130 : Int32) * x1) + i112).toNatClampNeg) v128) fun M129 => nm (i112 + (1 : Int32)) fun v130 => k111 v130 M129)
def fX12_text_l119_111 (x1 : Int32) : Nat → Int32 → Mem → Option (Int32 × Mem)
  | 0, _, _ => none
  | n + 1, i112, M113 => fX12_text_b119_111 x1 (fX12_text_l119_111 x1 n) i112 M113
def fX12_text_b191_141 (x1 : Int32) (k141 : Int32 → Mem → Option (Int32 × Mem)) (i142 : Int32) (M143 : Mem) : Option (Int32 × Mem) :=
  ix x1 3 <| if (mgI M143 7900 0 x1.toNatClampNeg) ≤ i142 then (some ((1 : Int32), M143)) else (ix ((122 : Int32) + i142) 183 <| nm (mgI M143 8000 0 ((122 : Int32) + i142).toNatClampNeg) fun v145 => ix (((61 : Int32) * x1) + i142) 183 <| nm (msI M143 8000 0 ((((61 : Int32) * x1) + i142).toNatClampNeg) (vp_nar .short v145)) fun M146 => ix ((122 : Int32) + i142) 183 <| nm (mgI M146 8100 0 ((122 : Int32) + i142).toNatClampNeg) fun v147 => ix (((61 : Int32) * x1) + i142) 183 <| nm (msI M146 8100 0 ((((61 : Int32) * x1) + i142).toNatClampNeg) (vp_nar .short v147)) fun M148 => nm (i142 + (1 : Int32)) fun v149 => k141 v149 M148)
def fX12_text_l191_141 (x1 : Int32) : Nat → Int32 → Mem → Option (Int32 × Mem)
  | 0, _, _ => none
  | n + 1, i142, M143 => fX12_text_b191_141 x1 (fX12_text_l191_141 x1 n) i142 M143
def fX12_text_b119_135 (x1 : Int32) (k135 : Int32 → Mem → Option (Int32 × Mem)) (i136 : Int32) (M137 : Mem) : Option (Int32 × Mem) :=
  if (mgI M137 1237 0 0) ≤ i136 then (nm (mgI M137 7900 0 (2 : Int32).toNatClampNeg) fun v139 => ix x1 3 <| nm (msI M137 7900 0 x1.toNatClampNeg v139) fun M140 => fX12_text_l191_141 x1 FU (0 : Int32) M140) else (ix ((260 : Int32) + i136) 390 <| nm (mgI M137 7700 0 ((260 : Int32) + i136).toNatClampNeg) fun v150 => ix (((130 : Int32) * x1) + i136) 390 <| nm (msI M137 7700 0 ((((130 : Int32) * x1) + i136).toNatClampNeg) (vp_nar .byte v150)) fun M151 => ix ((260 : Int32) + i136) 390 <| nm (mgI M151 7800 0 ((260 : Int32) + i136).toNatClampNeg) fun v152 => ix (((130 : Int32) * x1) + i136) 390 <| nm (msI M151 7800 0 ((((130 : Int32) * x1) + i136).toNatClampNeg) v152) fun M153 => nm (i136 + (1 : Int32)) fun v154 => k135 v154 M153)
def fX12_text_l119_135 (x1 : Int32) : Nat → Int32 → Mem → Option (Int32 × Mem)
  | 0, _, _ => none
  | n + 1, i136, M137 => fX12_text_b119_135 x1 (fX12_text_l119_135 x1 n) i136 M137
def fX12_text_b42 (x1 : Int32) (k10 : Mem → Option (Int32 × Mem)) (M11 : Mem) : Option (Int32 × Mem) :=
  if 0 ≤ (mgI M11 1235 0 0) then (if 0 ≤ (mgI M11 1235 0 0) then (nm (msI M11 1233 0 0 (0 : Int32)) fun M14 => if (mgI M14 1235 0 0) < 0 then (fX12_text_l119 x1 FU (0 : Int32) M14) else (some ((-100 : Int32) - (mgI M14 1235 0 0), M14))) else (if (mgI M11 1233 0 0) ≤ (mgI M11 1234 0 0) then (nm (msI M11 1233 0 0 (0 : Int32)) fun M37 => if (mgI M37 1235 0 0) < 0 then (fX12_text_l119_39 x1 FU (0 : Int32) M37) else (some ((-100 : Int32) - (mgI M37 1235 0 0), M37))) else (bE (fX12_wrong M11) fun u59 M60 => nm (msI M60 1233 0 0 (0 : Int32)) fun M61 => if (mgI M61 1235 0 0) < 0 then (fX12_text_l119_63 x1 FU (0 : Int32) M61) else (some ((-100 : Int32) - (mgI M61 1235 0 0), M61))))) else (bd (fX12_look M11) fun b83 => if b83 = (59 : Int32) then (nm ((mgI M11 1234 0 0) + (1 : Int32)) fun v155 => nm (msI M11 1234 0 0 v155) fun M156 => bE (fX12_readLine M156) fun u157 M158 => k10 M158) else (if 0 ≤ (mgI M11 1235 0 0) then (nm (msI M11 1233 0 0 (0 : Int32)) fun M86 => if (mgI M86 1235 0 0) < 0 then (fX12_text_l119_88 x1 FU (0 : Int32) M86) else (some ((-100 : Int32) - (mgI M86 1235 0 0), M86))) else (if (mgI M11 1233 0 0) ≤ (mgI M11 1234 0 0) then (nm (msI M11 1233 0 0 (0 : Int32)) fun M109 => if (mgI M109 1235 0 0) < 0 then (fX12_text_l119_111 x1 FU (0 : Int32) M109) else (some ((-100 : Int32) - (mgI M109 1235 0 0), M109))) else (bE (fX12_wrong M11) fun u131 M132 => nm (msI M132 1233 0 0 (0 : Int32)) fun M133 => if (mgI M133 1235 0 0) < 0 then (fX12_text_l119_135 x1 FU (0 : Int32) M133) else (some ((-100 : Int32) - (mgI M133 1235 0 0), M133))))))
def fX12_text_l42 (x1 : Int32) : Nat → Mem → Option (Int32 × Mem)
  | 0, _ => none
  | n + 1, M11 => fX12_text_b42 x1 (fX12_text_l42 x1 n) M11
def fX12_text (x1 : Int32) (M0 : Mem) : Option (Int32 × Mem) :=
  nm (fX12_in x1 (0 : Int32) (1 : Int32)) fun b1 => if b1 = 0 then (some ((-1 : Int32), M0)) else (nm (msI M0 1234 0 0 (0 : Int32)) fun M3 => nm (msI M3 1235 0 0 (-1 : Int32)) fun M4 => nm (msI M4 1236 0 0 (0 : Int32)) fun M5 => nm (msI M5 1237 0 0 (0 : Int32)) fun M6 => nm (msI M6 7900 0 ((2 : Int32).toNatClampNeg) (0 : Int32)) fun M7 => bE (fX12_readLine M7) fun u8 M9 => fX12_text_l42 x1 FU M9)
set_option maxHeartbeats 4000000 in
set_option maxRecDepth 100000 in
theorem mX12_text {l : Launch} {D : va_G} {cy : Nat → ClassId} {A : Nat → Prop} {Z : State → Heap → Prop} {ad : Nat → Nat → Nat} (hZk : ZOK A Z) (x1 : Int32) (M0 : Mem) (r : Int32) (M' : Mem) (h : fX12_text x1 M0 = some (r, M')) : Met l yX12_text (wt yX12_text cX12_text 3 (some .int)) (rm 55 1146) (CPre D cy A Z cnM ad M0 [.ref (ad 12 0), .int x1]) (QI D cy A cnM ad r M') 0 0 A := by
  refine tb_start [.ref (ad 12 0), .int x1] [(0, .ref (ad 12 0)), (1, .int x1)] RX12 rfl (by decide +kernel) (Nat.le_of_ble_eq_true rfl) rfl (fun p e s m args below meth c hx hb hr hml hown hts hlk hW hK hZ ls hl => ?_)
  have hS : va_S A s.heap s.heap [] := va_S.rf
  unfold fX12_text at h
  refine lv_iload_n hx hb dX12_text_0 rfl (lv_at hl 1 rfl) ?_
  refine lv_iconst (v := (0 : Int32)) hx hb dX12_text_1 (by decide) ?_
  refine lv_iconst (v := (1 : Int32)) hx hb dX12_text_2 (by decide) ?_
  refine tb_cSZ hZk hx hb hml hown hts hK hZ hW hS [.int x1, .int (0 : Int32), .int (1 : Int32)] (mX12_in (l := l) hZk x1 (0 : Int32) (1 : Int32) M0 (fX12_in x1 (0 : Int32) (1 : Int32)) rfl) pmX12_in tw1401 ⟨Nat.le_of_ble_eq_true rfl, Nat.le_of_ble_eq_true rfl⟩ rfl hl.1 (Nat.le_of_ble_eq_true rfl) ⟨Nat.le_refl _, Nat.le_refl _⟩ rfl dX12_text_3 (fun H locs hW hS hzz => ?_)
  refine lv_topi (fun b1 eb1 => ?_)
  have h := nm_a eb1 h
  have hzb1 : b1 = 0 ∨ b1 = 1 := by rw [eb1]; exact hzz
  refine lv_if_ne (tgt := 11) hx hb dX12_text_6 (by decide) (fun c2 => ?_) (fun c2 => ?_)
  · have h := sh_f c2 h
    refine lv_aload_n hx hb dX12_text_11 rfl (lv_at hl 0 rfl) ?_
    refine lv_iconst (v := (0 : Int32)) hx hb dX12_text_12 (by decide) ?_
    refine ptX12_259 hx hb hts hown hK hW hS cz12 dX12_text_13 (fun H locs hW hS => ?_)
    obtain ⟨M3, eM3⟩ : ∃ y, y = msI M0 1234 0 0 (0 : Int32) := ⟨_, rfl⟩
    have h := nm_a eM3 h
    rw [← eM3] at hW
    refine lv_aload_n hx hb dX12_text_16 rfl (lv_at hl 0 rfl) ?_
    refine lv_iconst (v := (-1 : Int32)) hx hb dX12_text_17 (by decide) ?_
    refine ptX12_262 hx hb hts hown hK hW hS cz12 dX12_text_18 (fun H locs hW hS => ?_)
    obtain ⟨M4, eM4⟩ : ∃ y, y = msI M3 1235 0 0 (-1 : Int32) := ⟨_, rfl⟩
    have h := nm_a eM4 h
    rw [← eM4] at hW
    refine lv_aload_n hx hb dX12_text_21 rfl (lv_at hl 0 rfl) ?_
    refine lv_iconst (v := (0 : Int32)) hx hb dX12_text_22 (by decide) ?_
    refine ptX12_268 hx hb hts hown hK hW hS cz12 dX12_text_23 (fun H locs hW hS => ?_)
    obtain ⟨M5, eM5⟩ : ∃ y, y = msI M4 1236 0 0 (0 : Int32) := ⟨_, rfl⟩
    have h := nm_a eM5 h
    rw [← eM5] at hW
    refine lv_aload_n hx hb dX12_text_26 rfl (lv_at hl 0 rfl) ?_
    refine lv_iconst (v := (0 : Int32)) hx hb dX12_text_27 (by decide) ?_
    refine ptX12_265 hx hb hts hown hK hW hS cz12 dX12_text_28 (fun H locs hW hS => ?_)
    obtain ⟨M6, eM6⟩ : ∃ y, y = msI M5 1237 0 0 (0 : Int32) := ⟨_, rfl⟩
    have h := nm_a eM6 h
    rw [← eM6] at hW
    refine lv_aload_n hx hb dX12_text_31 rfl (lv_at hl 0 rfl) ?_
    refine gtX12_100 hx hb hts hown hK hW cz12 dX12_text_32 ?_
    refine lv_iconst (v := (2 : Int32)) hx hb dX12_text_35 (by decide) ?_
    refine lv_iconst (v := (0 : Int32)) hx hb dX12_text_36 (by decide) ?_
    refine as79 hx hb hK hW hS cz79 (vp_in_iff.mpr (by decide)) dX12_text_37 (fun H locs hW hS => ?_)
    obtain ⟨M7, eM7⟩ : ∃ y, y = msI M6 7900 0 ((2 : Int32).toNatClampNeg) (0 : Int32) := ⟨_, rfl⟩
    have h := nm_a eM7 h
    rw [← eM7] at hW
    refine lv_aload_n hx hb dX12_text_38 rfl (lv_at hl 0 rfl) ?_
    obtain ⟨u8, M9, hcu8, h⟩ := bE_a h
    refine tb_cVV hZk hx hb hml hown hts hK hZ hW hS [] (mX12_readLine (l := l) hZk M7 u8 M9 hcu8) pmX12_readLine tw1562 (Wd.recv hK hW (t := 12) (by decide) cz12 (C := RX12) (T := TX12) (N := 58) rfl) ⟨Nat.le_of_ble_eq_true rfl, Nat.le_of_ble_eq_true rfl⟩ rfl hl.1 (Nat.le_of_ble_eq_true rfl) ⟨Nat.le_refl _, Nat.le_refl _⟩ rfl dX12_text_39 (fun H locs hW hS => ?_)
    have L10 : ∀ (n10 : Nat) (M11 : Mem) (H : Heap) (locs : List Loc) (ls : Array Slot), Wd D cy A cnM ad M11 H → va_S A s.heap H locs → lv_has ls 3 [(0, .ref (ad 12 0)), (1, .int x1)] → fX12_text_l42 x1 n10 M11 = some (r, M') → W p l e (rm 55 1146) s m args below meth c H locs 0 0 (MQ below (QI D cy A cnM ad r M') args s 0 0 A) (F0 m 42 ls []) := by
      intro n10
      induction n10 with
      | zero => intro M11 H locs ls hW hS hl h; cases h
      | succ n10 ih10 =>
        intro M11 H locs ls hW hS hl h
        unfold fX12_text_l42 fX12_text_b42 at h
        refine lv_aload_n hx hb dX12_text_42 rfl (lv_at hl 0 rfl) ?_
        refine gtX12_262 hx hb hts hown hK hW cz12 dX12_text_43 ?_
        refine lv_if_ge (tgt := 75) hx hb dX12_text_46 (by decide) (fun c12 => ?_) (fun c12 => ?_)
        · have h := sh_t c12 h
          refine lv_aload_n hx hb dX12_text_75 rfl (lv_at hl 0 rfl) ?_
          refine gtX12_262 hx hb hts hown hK hW cz12 dX12_text_76 ?_
          refine lv_if_ge (tgt := 97) hx hb dX12_text_79 (by decide) (fun c13 => ?_) (fun c13 => ?_)
          · have h := sh_t c13 h
            refine lv_aload_n hx hb dX12_text_97 rfl (lv_at hl 0 rfl) ?_
            refine lv_iconst (v := (0 : Int32)) hx hb dX12_text_98 (by decide) ?_
            refine ptX12_256 hx hb hts hown hK hW hS cz12 dX12_text_99 (fun H locs hW hS => ?_)
            obtain ⟨M14, eM14⟩ : ∃ y, y = msI M11 1233 0 0 (0 : Int32) := ⟨_, rfl⟩
            have h := nm_a eM14 h
            rw [← eM14] at hW
            refine lv_aload_n hx hb dX12_text_102 rfl (lv_at hl 0 rfl) ?_
            refine gtX12_262 hx hb hts hown hK hW cz12 dX12_text_103 ?_
            refine lv_if_lt (tgt := 117) hx hb dX12_text_106 (by decide) (fun c15 => ?_) (fun c15 => ?_)
            · have h := sh_t c15 h
              refine lv_iconst (v := (0 : Int32)) hx hb dX12_text_117 (by decide) ?_
              refine lv_istore_n (lv' := [(2, .int (0 : Int32)), (0, .ref (ad 12 0)), (1, .int x1)]) hx hb dX12_text_118 rfl hl (by decide) rfl (fun ls hl => ?_)
              have L16 : ∀ (n16 : Nat) (i17 : Int32) (M18 : Mem) (H : Heap) (locs : List Loc) (ls : Array Slot), Wd D cy A cnM ad M18 H → va_S A s.heap H locs → lv_has ls 3 [(0, .ref (ad 12 0)), (1, .int x1), (2, .int i17)] → fX12_text_l119 x1 n16 i17 M18 = some (r, M') → W p l e (rm 55 1146) s m args below meth c H locs 0 0 (MQ below (QI D cy A cnM ad r M') args s 0 0 A) (F0 m 119 ls []) := by
                intro n16
                induction n16 with
                | zero => intro i17 M18 H locs ls hW hS hl h; cases h
                | succ n16 ih16 =>
                  intro i17 M18 H locs ls hW hS hl h
                  unfold fX12_text_l119 fX12_text_b119 at h
                  refine lv_iload_n hx hb dX12_text_119 rfl (lv_at hl 2 rfl) ?_
                  refine lv_aload_n hx hb dX12_text_120 rfl (lv_at hl 0 rfl) ?_
                  refine gtX12_265 hx hb hts hown hK hW cz12 dX12_text_121 ?_
                  refine lv_icmp_ge (tgt := 177) hx hb dX12_text_124 (by decide) (fun c19 => ?_) (fun c19 => ?_)
                  · have h := sh_t c19 h
                    refine lv_aload_n hx hb dX12_text_177 rfl (lv_at hl 0 rfl) ?_
                    refine gtX12_100 hx hb hts hown hK hW cz12 dX12_text_178 ?_
                    refine lv_iload_n hx hb dX12_text_181 rfl (lv_at hl 1 rfl) ?_
                    refine lv_aload_n hx hb dX12_text_182 rfl (lv_at hl 0 rfl) ?_
                    refine gtX12_100 hx hb hts hown hK hW cz12 dX12_text_183 ?_
                    refine lv_iconst (v := (2 : Int32)) hx hb dX12_text_186 (by decide) ?_
                    refine al79 hx hb hK hW cz79 (vp_in_iff.mpr (by decide)) dX12_text_187 ?_
                    refine lv_topi (fun v20 ev20 => ?_)
                    have h := nm_a ev20 h
                    obtain ⟨hj, h⟩ := ix_a h
                    refine as79 hx hb hK hW hS cz79 hj dX12_text_188 (fun H locs hW hS => ?_)
                    obtain ⟨M21, eM21⟩ : ∃ y, y = msI M18 7900 0 x1.toNatClampNeg v20 := ⟨_, rfl⟩
                    have h := nm_a eM21 h
                    rw [← eM21] at hW
                    refine lv_iconst (v := (0 : Int32)) hx hb dX12_text_189 (by decide) ?_
                    refine lv_istore_n (lv' := [(2, .int (0 : Int32)), (0, .ref (ad 12 0)), (1, .int x1)]) hx hb dX12_text_190 rfl hl (by decide) rfl (fun ls hl => ?_)
                    have L22 : ∀ (n22 : Nat) (i23 : Int32) (M24 : Mem) (H : Heap) (locs : List Loc) (ls : Array Slot), Wd D cy A cnM ad M24 H → va_S A s.heap H locs → lv_has ls 3 [(0, .ref (ad 12 0)), (1, .int x1), (2, .int i23)] → fX12_text_l191 x1 n22 i23 M24 = some (r, M') → W p l e (rm 55 1146) s m args below meth c H locs 0 0 (MQ below (QI D cy A cnM ad r M') args s 0 0 A) (F0 m 191 ls []) := by
                      intro n22
                      induction n22 with
                      | zero => intro i23 M24 H locs ls hW hS hl h; cases h
                      | succ n22 ih22 =>
                        intro i23 M24 H locs ls hW hS hl h
                        unfold fX12_text_l191 fX12_text_b191 at h
                        refine lv_iload_n hx hb dX12_text_191 rfl (lv_at hl 2 rfl) ?_
                        refine lv_aload_n hx hb dX12_text_192 rfl (lv_at hl 0 rfl) ?_
                        refine gtX12_100 hx hb hts hown hK hW cz12 dX12_text_193 ?_
                        refine lv_iload_n hx hb dX12_text_196 rfl (lv_at hl 1 rfl) ?_
                        obtain ⟨hj, h⟩ := ix_a h
                        refine al79 hx hb hK hW cz79 hj dX12_text_197 ?_
                        refine lv_icmp_ge (tgt := 247) hx hb dX12_text_198 (by decide) (fun c25 => ?_) (fun c25 => ?_)
                        · have h := sh_t c25 h
                          refine lv_iconst (v := (1 : Int32)) hx hb dX12_text_247 (by decide) ?_
                          exact tb_iretE h hx hb hr hS hW hlk dX12_text_248
                        · have h := sh_f c25 h
                          refine lv_aload_n hx hb dX12_text_201 rfl (lv_at hl 0 rfl) ?_
                          refine gtX12_103 hx hb hts hown hK hW cz12 dX12_text_202 ?_
                          refine lv_bipush (v := (61 : Int32)) hx hb dX12_text_205 (by decide) ?_
                          refine lv_iload_n hx hb dX12_text_207 rfl (lv_at hl 1 rfl) ?_
                          refine lv_imul hx hb dX12_text_208 ?_
                          refine lv_iload_n hx hb dX12_text_209 rfl (lv_at hl 2 rfl) ?_
                          refine lv_iadd hx hb dX12_text_210 ?_
                          refine lv_aload_n hx hb dX12_text_211 rfl (lv_at hl 0 rfl) ?_
                          refine gtX12_103 hx hb hts hown hK hW cz12 dX12_text_212 ?_
                          refine lv_bipush (v := (122 : Int32)) hx hb dX12_text_215 (by decide) ?_
                          refine lv_iload_n hx hb dX12_text_217 rfl (lv_at hl 2 rfl) ?_
                          refine lv_iadd hx hb dX12_text_218 ?_
                          obtain ⟨hj, h⟩ := ix_a h
                          refine al80 hx hb hK hW cz80 hj dX12_text_219 ?_
                          refine lv_topi (fun v26 ev26 => ?_)
                          have h := nm_a ev26 h
                          obtain ⟨hj, h⟩ := ix_a h
                          refine as80 hx hb hK hW hS cz80 hj dX12_text_220 (fun H locs hW hS => ?_)
                          obtain ⟨M27, eM27⟩ : ∃ y, y = msI M24 8000 0 ((((61 : Int32) * x1) + i23).toNatClampNeg) (vp_nar .short v26) := ⟨_, rfl⟩
                          have h := nm_a eM27 h
                          rw [← eM27] at hW
                          refine lv_aload_n hx hb dX12_text_221 rfl (lv_at hl 0 rfl) ?_
                          refine gtX12_107 hx hb hts hown hK hW cz12 dX12_text_222 ?_
                          refine lv_bipush (v := (61 : Int32)) hx hb dX12_text_225 (by decide) ?_
                          refine lv_iload_n hx hb dX12_text_227 rfl (lv_at hl 1 rfl) ?_
                          refine lv_imul hx hb dX12_text_228 ?_
                          refine lv_iload_n hx hb dX12_text_229 rfl (lv_at hl 2 rfl) ?_
                          refine lv_iadd hx hb dX12_text_230 ?_
                          refine lv_aload_n hx hb dX12_text_231 rfl (lv_at hl 0 rfl) ?_
                          refine gtX12_107 hx hb hts hown hK hW cz12 dX12_text_232 ?_
                          refine lv_bipush (v := (122 : Int32)) hx hb dX12_text_235 (by decide) ?_
                          refine lv_iload_n hx hb dX12_text_237 rfl (lv_at hl 2 rfl) ?_
                          refine lv_iadd hx hb dX12_text_238 ?_
                          obtain ⟨hj, h⟩ := ix_a h
                          refine al81 hx hb hK hW cz81 hj dX12_text_239 ?_
                          refine lv_topi (fun v28 ev28 => ?_)
                          have h := nm_a ev28 h
                          obtain ⟨hj, h⟩ := ix_a h
                          refine as81 hx hb hK hW hS cz81 hj dX12_text_240 (fun H locs hW hS => ?_)
                          obtain ⟨M29, eM29⟩ : ∃ y, y = msI M27 8100 0 ((((61 : Int32) * x1) + i23).toNatClampNeg) (vp_nar .short v28) := ⟨_, rfl⟩
                          have h := nm_a eM29 h
                          rw [← eM29] at hW
                          obtain ⟨v30, ev30⟩ : ∃ y : Int32, y = i23 + (1 : Int32) := ⟨_, rfl⟩
                          have h := nm_a ev30 h
                          refine lv_iinc (v := v30) (lv' := [(2, .int v30), (0, .ref (ad 12 0)), (1, .int x1)]) hx hb dX12_text_241 hl (k := 2) rfl (by rw [ev30]; rfl) (by decide) rfl (fun ls hl => ?_)
                          refine lv_goto (tgt := 191) hx hb dX12_text_244 (by decide) ?_
                          exact ih22 v30 M29 _ _ _ hW hS (lv_sub hl [1, 2, 0] rfl) h
                    exact L22 FU (0 : Int32) M21 _ _ _ hW hS (lv_sub hl [1, 2, 0] rfl) h
                  · have h := sh_f c19 h
                    refine lv_aload_n hx hb dX12_text_127 rfl (lv_at hl 0 rfl) ?_
                    refine gtX12_94 hx hb hts hown hK hW cz12 dX12_text_128 ?_
                    refine lv_sipush (v := (130 : Int32)) hx hb dX12_text_131 (by decide) ?_
                    refine lv_iload_n hx hb dX12_text_134 rfl (lv_at hl 1 rfl) ?_
                    refine lv_imul hx hb dX12_text_135 ?_
                    refine lv_iload_n hx hb dX12_text_136 rfl (lv_at hl 2 rfl) ?_
                    refine lv_iadd hx hb dX12_text_137 ?_
                    refine lv_aload_n hx hb dX12_text_138 rfl (lv_at hl 0 rfl) ?_
                    refine gtX12_94 hx hb hts hown hK hW cz12 dX12_text_139 ?_
                    refine lv_sipush (v := (260 : Int32)) hx hb dX12_text_142 (by decide) ?_
                    refine lv_iload_n hx hb dX12_text_145 rfl (lv_at hl 2 rfl) ?_
                    refine lv_iadd hx hb dX12_text_146 ?_
                    obtain ⟨hj, h⟩ := ix_a h
                    refine al77 hx hb hK hW cz77 hj dX12_text_147 ?_
                    refine lv_topi (fun v31 ev31 => ?_)
                    have h := nm_a ev31 h
                    obtain ⟨hj, h⟩ := ix_a h
                    refine as77 hx hb hK hW hS cz77 hj dX12_text_148 (fun H locs hW hS => ?_)
                    obtain ⟨M32, eM32⟩ : ∃ y, y = msI M18 7700 0 ((((130 : Int32) * x1) + i17).toNatClampNeg) (vp_nar .byte v31) := ⟨_, rfl⟩
                    have h := nm_a eM32 h
                    rw [← eM32] at hW
                    refine lv_aload_n hx hb dX12_text_149 rfl (lv_at hl 0 rfl) ?_
                    refine gtX12_97 hx hb hts hown hK hW cz12 dX12_text_150 ?_
                    refine lv_sipush (v := (130 : Int32)) hx hb dX12_text_153 (by decide) ?_
                    refine lv_iload_n hx hb dX12_text_156 rfl (lv_at hl 1 rfl) ?_
                    refine lv_imul hx hb dX12_text_157 ?_
                    refine lv_iload_n hx hb dX12_text_158 rfl (lv_at hl 2 rfl) ?_
                    refine lv_iadd hx hb dX12_text_159 ?_
                    refine lv_aload_n hx hb dX12_text_160 rfl (lv_at hl 0 rfl) ?_
                    refine gtX12_97 hx hb hts hown hK hW cz12 dX12_text_161 ?_
                    refine lv_sipush (v := (260 : Int32)) hx hb dX12_text_164 (by decide) ?_
                    refine lv_iload_n hx hb dX12_text_167 rfl (lv_at hl 2 rfl) ?_
                    refine lv_iadd hx hb dX12_text_168 ?_
                    obtain ⟨hj, h⟩ := ix_a h
                    refine al78 hx hb hK hW cz78 hj dX12_text_169 ?_
                    refine lv_topi (fun v33 ev33 => ?_)
                    have h := nm_a ev33 h
                    obtain ⟨hj, h⟩ := ix_a h
                    refine as78 hx hb hK hW hS cz78 hj dX12_text_170 (fun H locs hW hS => ?_)
                    obtain ⟨M34, eM34⟩ : ∃ y, y = msI M32 7800 0 ((((130 : Int32) * x1) + i17).toNatClampNeg) v33 := ⟨_, rfl⟩
                    have h := nm_a eM34 h
                    rw [← eM34] at hW
                    obtain ⟨v35, ev35⟩ : ∃ y : Int32, y = i17 + (1 : Int32) := ⟨_, rfl⟩
                    have h := nm_a ev35 h
                    refine lv_iinc (v := v35) (lv' := [(2, .int v35), (0, .ref (ad 12 0)), (1, .int x1)]) hx hb dX12_text_171 hl (k := 2) rfl (by rw [ev35]; rfl) (by decide) rfl (fun ls hl => ?_)
                    refine lv_goto (tgt := 119) hx hb dX12_text_174 (by decide) ?_
                    exact ih16 v35 M34 _ _ _ hW hS (lv_sub hl [1, 2, 0] rfl) h
              exact L16 FU (0 : Int32) M14 _ _ _ hW hS (lv_sub hl [1, 2, 0] rfl) h
            · have h := sh_f c15 h
              refine lv_bipush (v := (-100 : Int32)) hx hb dX12_text_109 (by decide) ?_
              refine lv_aload_n hx hb dX12_text_111 rfl (lv_at hl 0 rfl) ?_
              refine gtX12_262 hx hb hts hown hK hW cz12 dX12_text_112 ?_
              refine lv_isub hx hb dX12_text_115 ?_
              exact tb_iretE h hx hb hr hS hW hlk dX12_text_116
          · have h := sh_f c13 h
            refine lv_aload_n hx hb dX12_text_82 rfl (lv_at hl 0 rfl) ?_
            refine gtX12_259 hx hb hts hown hK hW cz12 dX12_text_83 ?_
            refine lv_aload_n hx hb dX12_text_86 rfl (lv_at hl 0 rfl) ?_
            refine gtX12_256 hx hb hts hown hK hW cz12 dX12_text_87 ?_
            refine lv_icmp_ge (tgt := 97) hx hb dX12_text_90 (by decide) (fun c36 => ?_) (fun c36 => ?_)
            · have h := sh_t c36 h
              refine lv_aload_n hx hb dX12_text_97 rfl (lv_at hl 0 rfl) ?_
              refine lv_iconst (v := (0 : Int32)) hx hb dX12_text_98 (by decide) ?_
              refine ptX12_256 hx hb hts hown hK hW hS cz12 dX12_text_99 (fun H locs hW hS => ?_)
              obtain ⟨M37, eM37⟩ : ∃ y, y = msI M11 1233 0 0 (0 : Int32) := ⟨_, rfl⟩
              have h := nm_a eM37 h
              rw [← eM37] at hW
              refine lv_aload_n hx hb dX12_text_102 rfl (lv_at hl 0 rfl) ?_
              refine gtX12_262 hx hb hts hown hK hW cz12 dX12_text_103 ?_
              refine lv_if_lt (tgt := 117) hx hb dX12_text_106 (by decide) (fun c38 => ?_) (fun c38 => ?_)
              · have h := sh_t c38 h
                refine lv_iconst (v := (0 : Int32)) hx hb dX12_text_117 (by decide) ?_
                refine lv_istore_n (lv' := [(2, .int (0 : Int32)), (0, .ref (ad 12 0)), (1, .int x1)]) hx hb dX12_text_118 rfl hl (by decide) rfl (fun ls hl => ?_)
                have L39 : ∀ (n39 : Nat) (i40 : Int32) (M41 : Mem) (H : Heap) (locs : List Loc) (ls : Array Slot), Wd D cy A cnM ad M41 H → va_S A s.heap H locs → lv_has ls 3 [(0, .ref (ad 12 0)), (1, .int x1), (2, .int i40)] → fX12_text_l119_39 x1 n39 i40 M41 = some (r, M') → W p l e (rm 55 1146) s m args below meth c H locs 0 0 (MQ below (QI D cy A cnM ad r M') args s 0 0 A) (F0 m 119 ls []) := by
                  intro n39
                  induction n39 with
                  | zero => intro i40 M41 H locs ls hW hS hl h; cases h
                  | succ n39 ih39 =>
                    intro i40 M41 H locs ls hW hS hl h
                    unfold fX12_text_l119_39 fX12_text_b119_39 at h
                    refine lv_iload_n hx hb dX12_text_119 rfl (lv_at hl 2 rfl) ?_
                    refine lv_aload_n hx hb dX12_text_120 rfl (lv_at hl 0 rfl) ?_
                    refine gtX12_265 hx hb hts hown hK hW cz12 dX12_text_121 ?_
                    refine lv_icmp_ge (tgt := 177) hx hb dX12_text_124 (by decide) (fun c42 => ?_) (fun c42 => ?_)
                    · have h := sh_t c42 h
                      refine lv_aload_n hx hb dX12_text_177 rfl (lv_at hl 0 rfl) ?_
                      refine gtX12_100 hx hb hts hown hK hW cz12 dX12_text_178 ?_
                      refine lv_iload_n hx hb dX12_text_181 rfl (lv_at hl 1 rfl) ?_
                      refine lv_aload_n hx hb dX12_text_182 rfl (lv_at hl 0 rfl) ?_
                      refine gtX12_100 hx hb hts hown hK hW cz12 dX12_text_183 ?_
                      refine lv_iconst (v := (2 : Int32)) hx hb dX12_text_186 (by decide) ?_
                      refine al79 hx hb hK hW cz79 (vp_in_iff.mpr (by decide)) dX12_text_187 ?_
                      refine lv_topi (fun v43 ev43 => ?_)
                      have h := nm_a ev43 h
                      obtain ⟨hj, h⟩ := ix_a h
                      refine as79 hx hb hK hW hS cz79 hj dX12_text_188 (fun H locs hW hS => ?_)
                      obtain ⟨M44, eM44⟩ : ∃ y, y = msI M41 7900 0 x1.toNatClampNeg v43 := ⟨_, rfl⟩
                      have h := nm_a eM44 h
                      rw [← eM44] at hW
                      refine lv_iconst (v := (0 : Int32)) hx hb dX12_text_189 (by decide) ?_
                      refine lv_istore_n (lv' := [(2, .int (0 : Int32)), (0, .ref (ad 12 0)), (1, .int x1)]) hx hb dX12_text_190 rfl hl (by decide) rfl (fun ls hl => ?_)
                      have L45 : ∀ (n45 : Nat) (i46 : Int32) (M47 : Mem) (H : Heap) (locs : List Loc) (ls : Array Slot), Wd D cy A cnM ad M47 H → va_S A s.heap H locs → lv_has ls 3 [(0, .ref (ad 12 0)), (1, .int x1), (2, .int i46)] → fX12_text_l191_45 x1 n45 i46 M47 = some (r, M') → W p l e (rm 55 1146) s m args below meth c H locs 0 0 (MQ below (QI D cy A cnM ad r M') args s 0 0 A) (F0 m 191 ls []) := by
                        intro n45
                        induction n45 with
                        | zero => intro i46 M47 H locs ls hW hS hl h; cases h
                        | succ n45 ih45 =>
                          intro i46 M47 H locs ls hW hS hl h
                          unfold fX12_text_l191_45 fX12_text_b191_45 at h
                          refine lv_iload_n hx hb dX12_text_191 rfl (lv_at hl 2 rfl) ?_
                          refine lv_aload_n hx hb dX12_text_192 rfl (lv_at hl 0 rfl) ?_
                          refine gtX12_100 hx hb hts hown hK hW cz12 dX12_text_193 ?_
                          refine lv_iload_n hx hb dX12_text_196 rfl (lv_at hl 1 rfl) ?_
                          obtain ⟨hj, h⟩ := ix_a h
                          refine al79 hx hb hK hW cz79 hj dX12_text_197 ?_
                          refine lv_icmp_ge (tgt := 247) hx hb dX12_text_198 (by decide) (fun c48 => ?_) (fun c48 => ?_)
                          · have h := sh_t c48 h
                            refine lv_iconst (v := (1 : Int32)) hx hb dX12_text_247 (by decide) ?_
                            exact tb_iretE h hx hb hr hS hW hlk dX12_text_248
                          · have h := sh_f c48 h
                            refine lv_aload_n hx hb dX12_text_201 rfl (lv_at hl 0 rfl) ?_
                            refine gtX12_103 hx hb hts hown hK hW cz12 dX12_text_202 ?_
                            refine lv_bipush (v := (61 : Int32)) hx hb dX12_text_205 (by decide) ?_
                            refine lv_iload_n hx hb dX12_text_207 rfl (lv_at hl 1 rfl) ?_
                            refine lv_imul hx hb dX12_text_208 ?_
                            refine lv_iload_n hx hb dX12_text_209 rfl (lv_at hl 2 rfl) ?_
                            refine lv_iadd hx hb dX12_text_210 ?_
                            refine lv_aload_n hx hb dX12_text_211 rfl (lv_at hl 0 rfl) ?_
                            refine gtX12_103 hx hb hts hown hK hW cz12 dX12_text_212 ?_
                            refine lv_bipush (v := (122 : Int32)) hx hb dX12_text_215 (by decide) ?_
                            refine lv_iload_n hx hb dX12_text_217 rfl (lv_at hl 2 rfl) ?_
                            refine lv_iadd hx hb dX12_text_218 ?_
                            obtain ⟨hj, h⟩ := ix_a h
                            refine al80 hx hb hK hW cz80 hj dX12_text_219 ?_
                            refine lv_topi (fun v49 ev49 => ?_)
                            have h := nm_a ev49 h
                            obtain ⟨hj, h⟩ := ix_a h
                            refine as80 hx hb hK hW hS cz80 hj dX12_text_220 (fun H locs hW hS => ?_)
                            obtain ⟨M50, eM50⟩ : ∃ y, y = msI M47 8000 0 ((((61 : Int32) * x1) + i46).toNatClampNeg) (vp_nar .short v49) := ⟨_, rfl⟩
                            have h := nm_a eM50 h
                            rw [← eM50] at hW
                            refine lv_aload_n hx hb dX12_text_221 rfl (lv_at hl 0 rfl) ?_
                            refine gtX12_107 hx hb hts hown hK hW cz12 dX12_text_222 ?_
                            refine lv_bipush (v := (61 : Int32)) hx hb dX12_text_225 (by decide) ?_
                            refine lv_iload_n hx hb dX12_text_227 rfl (lv_at hl 1 rfl) ?_
                            refine lv_imul hx hb dX12_text_228 ?_
                            refine lv_iload_n hx hb dX12_text_229 rfl (lv_at hl 2 rfl) ?_
                            refine lv_iadd hx hb dX12_text_230 ?_
                            refine lv_aload_n hx hb dX12_text_231 rfl (lv_at hl 0 rfl) ?_
                            refine gtX12_107 hx hb hts hown hK hW cz12 dX12_text_232 ?_
                            refine lv_bipush (v := (122 : Int32)) hx hb dX12_text_235 (by decide) ?_
                            refine lv_iload_n hx hb dX12_text_237 rfl (lv_at hl 2 rfl) ?_
                            refine lv_iadd hx hb dX12_text_238 ?_
                            obtain ⟨hj, h⟩ := ix_a h
                            refine al81 hx hb hK hW cz81 hj dX12_text_239 ?_
                            refine lv_topi (fun v51 ev51 => ?_)
                            have h := nm_a ev51 h
                            obtain ⟨hj, h⟩ := ix_a h
                            refine as81 hx hb hK hW hS cz81 hj dX12_text_240 (fun H locs hW hS => ?_)
                            obtain ⟨M52, eM52⟩ : ∃ y, y = msI M50 8100 0 ((((61 : Int32) * x1) + i46).toNatClampNeg) (vp_nar .short v51) := ⟨_, rfl⟩
                            have h := nm_a eM52 h
                            rw [← eM52] at hW
                            obtain ⟨v53, ev53⟩ : ∃ y : Int32, y = i46 + (1 : Int32) := ⟨_, rfl⟩
                            have h := nm_a ev53 h
                            refine lv_iinc (v := v53) (lv' := [(2, .int v53), (0, .ref (ad 12 0)), (1, .int x1)]) hx hb dX12_text_241 hl (k := 2) rfl (by rw [ev53]; rfl) (by decide) rfl (fun ls hl => ?_)
                            refine lv_goto (tgt := 191) hx hb dX12_text_244 (by decide) ?_
                            exact ih45 v53 M52 _ _ _ hW hS (lv_sub hl [1, 2, 0] rfl) h
                      exact L45 FU (0 : Int32) M44 _ _ _ hW hS (lv_sub hl [1, 2, 0] rfl) h
                    · have h := sh_f c42 h
                      refine lv_aload_n hx hb dX12_text_127 rfl (lv_at hl 0 rfl) ?_
                      refine gtX12_94 hx hb hts hown hK hW cz12 dX12_text_128 ?_
                      refine lv_sipush (v := (130 : Int32)) hx hb dX12_text_131 (by decide) ?_
                      refine lv_iload_n hx hb dX12_text_134 rfl (lv_at hl 1 rfl) ?_
                      refine lv_imul hx hb dX12_text_135 ?_
                      refine lv_iload_n hx hb dX12_text_136 rfl (lv_at hl 2 rfl) ?_
                      refine lv_iadd hx hb dX12_text_137 ?_
                      refine lv_aload_n hx hb dX12_text_138 rfl (lv_at hl 0 rfl) ?_
                      refine gtX12_94 hx hb hts hown hK hW cz12 dX12_text_139 ?_
                      refine lv_sipush (v := (260 : Int32)) hx hb dX12_text_142 (by decide) ?_
                      refine lv_iload_n hx hb dX12_text_145 rfl (lv_at hl 2 rfl) ?_
                      refine lv_iadd hx hb dX12_text_146 ?_
                      obtain ⟨hj, h⟩ := ix_a h
                      refine al77 hx hb hK hW cz77 hj dX12_text_147 ?_
                      refine lv_topi (fun v54 ev54 => ?_)
                      have h := nm_a ev54 h
                      obtain ⟨hj, h⟩ := ix_a h
                      refine as77 hx hb hK hW hS cz77 hj dX12_text_148 (fun H locs hW hS => ?_)
                      obtain ⟨M55, eM55⟩ : ∃ y, y = msI M41 7700 0 ((((130 : Int32) * x1) + i40).toNatClampNeg) (vp_nar .byte v54) := ⟨_, rfl⟩
                      have h := nm_a eM55 h
                      rw [← eM55] at hW
                      refine lv_aload_n hx hb dX12_text_149 rfl (lv_at hl 0 rfl) ?_
                      refine gtX12_97 hx hb hts hown hK hW cz12 dX12_text_150 ?_
                      refine lv_sipush (v := (130 : Int32)) hx hb dX12_text_153 (by decide) ?_
                      refine lv_iload_n hx hb dX12_text_156 rfl (lv_at hl 1 rfl) ?_
                      refine lv_imul hx hb dX12_text_157 ?_
                      refine lv_iload_n hx hb dX12_text_158 rfl (lv_at hl 2 rfl) ?_
                      refine lv_iadd hx hb dX12_text_159 ?_
                      refine lv_aload_n hx hb dX12_text_160 rfl (lv_at hl 0 rfl) ?_
                      refine gtX12_97 hx hb hts hown hK hW cz12 dX12_text_161 ?_
                      refine lv_sipush (v := (260 : Int32)) hx hb dX12_text_164 (by decide) ?_
                      refine lv_iload_n hx hb dX12_text_167 rfl (lv_at hl 2 rfl) ?_
                      refine lv_iadd hx hb dX12_text_168 ?_
                      obtain ⟨hj, h⟩ := ix_a h
                      refine al78 hx hb hK hW cz78 hj dX12_text_169 ?_
                      refine lv_topi (fun v56 ev56 => ?_)
                      have h := nm_a ev56 h
                      obtain ⟨hj, h⟩ := ix_a h
                      refine as78 hx hb hK hW hS cz78 hj dX12_text_170 (fun H locs hW hS => ?_)
                      obtain ⟨M57, eM57⟩ : ∃ y, y = msI M55 7800 0 ((((130 : Int32) * x1) + i40).toNatClampNeg) v56 := ⟨_, rfl⟩
                      have h := nm_a eM57 h
                      rw [← eM57] at hW
                      obtain ⟨v58, ev58⟩ : ∃ y : Int32, y = i40 + (1 : Int32) := ⟨_, rfl⟩
                      have h := nm_a ev58 h
                      refine lv_iinc (v := v58) (lv' := [(2, .int v58), (0, .ref (ad 12 0)), (1, .int x1)]) hx hb dX12_text_171 hl (k := 2) rfl (by rw [ev58]; rfl) (by decide) rfl (fun ls hl => ?_)
                      refine lv_goto (tgt := 119) hx hb dX12_text_174 (by decide) ?_
                      exact ih39 v58 M57 _ _ _ hW hS (lv_sub hl [1, 2, 0] rfl) h
                exact L39 FU (0 : Int32) M37 _ _ _ hW hS (lv_sub hl [1, 2, 0] rfl) h
              · have h := sh_f c38 h
                refine lv_bipush (v := (-100 : Int32)) hx hb dX12_text_109 (by decide) ?_
                refine lv_aload_n hx hb dX12_text_111 rfl (lv_at hl 0 rfl) ?_
                refine gtX12_262 hx hb hts hown hK hW cz12 dX12_text_112 ?_
                refine lv_isub hx hb dX12_text_115 ?_
                exact tb_iretE h hx hb hr hS hW hlk dX12_text_116
            · have h := sh_f c36 h
              refine lv_aload_n hx hb dX12_text_93 rfl (lv_at hl 0 rfl) ?_
              obtain ⟨u59, M60, hcu59, h⟩ := bE_a h
              refine tb_cVV hZk hx hb hml hown hts hK hZ hW hS [] (mX12_wrong (l := l) hZk M11 u59 M60 hcu59) pmX12_wrong tw1605 (Wd.recv hK hW (t := 12) (by decide) cz12 (C := RX12) (T := TX12) (N := 58) rfl) ⟨Nat.le_of_ble_eq_true rfl, Nat.le_of_ble_eq_true rfl⟩ rfl hl.1 (Nat.le_of_ble_eq_true rfl) ⟨Nat.le_refl _, Nat.le_refl _⟩ rfl dX12_text_94 (fun H locs hW hS => ?_)
              refine lv_aload_n hx hb dX12_text_97 rfl (lv_at hl 0 rfl) ?_
              refine lv_iconst (v := (0 : Int32)) hx hb dX12_text_98 (by decide) ?_
              refine ptX12_256 hx hb hts hown hK hW hS cz12 dX12_text_99 (fun H locs hW hS => ?_)
              obtain ⟨M61, eM61⟩ : ∃ y, y = msI M60 1233 0 0 (0 : Int32) := ⟨_, rfl⟩
              have h := nm_a eM61 h
              rw [← eM61] at hW
              refine lv_aload_n hx hb dX12_text_102 rfl (lv_at hl 0 rfl) ?_
              refine gtX12_262 hx hb hts hown hK hW cz12 dX12_text_103 ?_
              refine lv_if_lt (tgt := 117) hx hb dX12_text_106 (by decide) (fun c62 => ?_) (fun c62 => ?_)
              · have h := sh_t c62 h
                refine lv_iconst (v := (0 : Int32)) hx hb dX12_text_117 (by decide) ?_
                refine lv_istore_n (lv' := [(2, .int (0 : Int32)), (0, .ref (ad 12 0)), (1, .int x1)]) hx hb dX12_text_118 rfl hl (by decide) rfl (fun ls hl => ?_)
                have L63 : ∀ (n63 : Nat) (i64 : Int32) (M65 : Mem) (H : Heap) (locs : List Loc) (ls : Array Slot), Wd D cy A cnM ad M65 H → va_S A s.heap H locs → lv_has ls 3 [(0, .ref (ad 12 0)), (1, .int x1), (2, .int i64)] → fX12_text_l119_63 x1 n63 i64 M65 = some (r, M') → W p l e (rm 55 1146) s m args below meth c H locs 0 0 (MQ below (QI D cy A cnM ad r M') args s 0 0 A) (F0 m 119 ls []) := by
                  intro n63
                  induction n63 with
                  | zero => intro i64 M65 H locs ls hW hS hl h; cases h
                  | succ n63 ih63 =>
                    intro i64 M65 H locs ls hW hS hl h
                    unfold fX12_text_l119_63 fX12_text_b119_63 at h
                    refine lv_iload_n hx hb dX12_text_119 rfl (lv_at hl 2 rfl) ?_
                    refine lv_aload_n hx hb dX12_text_120 rfl (lv_at hl 0 rfl) ?_
                    refine gtX12_265 hx hb hts hown hK hW cz12 dX12_text_121 ?_
                    refine lv_icmp_ge (tgt := 177) hx hb dX12_text_124 (by decide) (fun c66 => ?_) (fun c66 => ?_)
                    · have h := sh_t c66 h
                      refine lv_aload_n hx hb dX12_text_177 rfl (lv_at hl 0 rfl) ?_
                      refine gtX12_100 hx hb hts hown hK hW cz12 dX12_text_178 ?_
                      refine lv_iload_n hx hb dX12_text_181 rfl (lv_at hl 1 rfl) ?_
                      refine lv_aload_n hx hb dX12_text_182 rfl (lv_at hl 0 rfl) ?_
                      refine gtX12_100 hx hb hts hown hK hW cz12 dX12_text_183 ?_
                      refine lv_iconst (v := (2 : Int32)) hx hb dX12_text_186 (by decide) ?_
                      refine al79 hx hb hK hW cz79 (vp_in_iff.mpr (by decide)) dX12_text_187 ?_
                      refine lv_topi (fun v67 ev67 => ?_)
                      have h := nm_a ev67 h
                      obtain ⟨hj, h⟩ := ix_a h
                      refine as79 hx hb hK hW hS cz79 hj dX12_text_188 (fun H locs hW hS => ?_)
                      obtain ⟨M68, eM68⟩ : ∃ y, y = msI M65 7900 0 x1.toNatClampNeg v67 := ⟨_, rfl⟩
                      have h := nm_a eM68 h
                      rw [← eM68] at hW
                      refine lv_iconst (v := (0 : Int32)) hx hb dX12_text_189 (by decide) ?_
                      refine lv_istore_n (lv' := [(2, .int (0 : Int32)), (0, .ref (ad 12 0)), (1, .int x1)]) hx hb dX12_text_190 rfl hl (by decide) rfl (fun ls hl => ?_)
                      have L69 : ∀ (n69 : Nat) (i70 : Int32) (M71 : Mem) (H : Heap) (locs : List Loc) (ls : Array Slot), Wd D cy A cnM ad M71 H → va_S A s.heap H locs → lv_has ls 3 [(0, .ref (ad 12 0)), (1, .int x1), (2, .int i70)] → fX12_text_l191_69 x1 n69 i70 M71 = some (r, M') → W p l e (rm 55 1146) s m args below meth c H locs 0 0 (MQ below (QI D cy A cnM ad r M') args s 0 0 A) (F0 m 191 ls []) := by
                        intro n69
                        induction n69 with
                        | zero => intro i70 M71 H locs ls hW hS hl h; cases h
                        | succ n69 ih69 =>
                          intro i70 M71 H locs ls hW hS hl h
                          unfold fX12_text_l191_69 fX12_text_b191_69 at h
                          refine lv_iload_n hx hb dX12_text_191 rfl (lv_at hl 2 rfl) ?_
                          refine lv_aload_n hx hb dX12_text_192 rfl (lv_at hl 0 rfl) ?_
                          refine gtX12_100 hx hb hts hown hK hW cz12 dX12_text_193 ?_
                          refine lv_iload_n hx hb dX12_text_196 rfl (lv_at hl 1 rfl) ?_
                          obtain ⟨hj, h⟩ := ix_a h
                          refine al79 hx hb hK hW cz79 hj dX12_text_197 ?_
                          refine lv_icmp_ge (tgt := 247) hx hb dX12_text_198 (by decide) (fun c72 => ?_) (fun c72 => ?_)
                          · have h := sh_t c72 h
                            refine lv_iconst (v := (1 : Int32)) hx hb dX12_text_247 (by decide) ?_
                            exact tb_iretE h hx hb hr hS hW hlk dX12_text_248
                          · have h := sh_f c72 h
                            refine lv_aload_n hx hb dX12_text_201 rfl (lv_at hl 0 rfl) ?_
                            refine gtX12_103 hx hb hts hown hK hW cz12 dX12_text_202 ?_
                            refine lv_bipush (v := (61 : Int32)) hx hb dX12_text_205 (by decide) ?_
                            refine lv_iload_n hx hb dX12_text_207 rfl (lv_at hl 1 rfl) ?_
                            refine lv_imul hx hb dX12_text_208 ?_
                            refine lv_iload_n hx hb dX12_text_209 rfl (lv_at hl 2 rfl) ?_
                            refine lv_iadd hx hb dX12_text_210 ?_
                            refine lv_aload_n hx hb dX12_text_211 rfl (lv_at hl 0 rfl) ?_
                            refine gtX12_103 hx hb hts hown hK hW cz12 dX12_text_212 ?_
                            refine lv_bipush (v := (122 : Int32)) hx hb dX12_text_215 (by decide) ?_
                            refine lv_iload_n hx hb dX12_text_217 rfl (lv_at hl 2 rfl) ?_
                            refine lv_iadd hx hb dX12_text_218 ?_
                            obtain ⟨hj, h⟩ := ix_a h
                            refine al80 hx hb hK hW cz80 hj dX12_text_219 ?_
                            refine lv_topi (fun v73 ev73 => ?_)
                            have h := nm_a ev73 h
                            obtain ⟨hj, h⟩ := ix_a h
                            refine as80 hx hb hK hW hS cz80 hj dX12_text_220 (fun H locs hW hS => ?_)
                            obtain ⟨M74, eM74⟩ : ∃ y, y = msI M71 8000 0 ((((61 : Int32) * x1) + i70).toNatClampNeg) (vp_nar .short v73) := ⟨_, rfl⟩
                            have h := nm_a eM74 h
                            rw [← eM74] at hW
                            refine lv_aload_n hx hb dX12_text_221 rfl (lv_at hl 0 rfl) ?_
                            refine gtX12_107 hx hb hts hown hK hW cz12 dX12_text_222 ?_
                            refine lv_bipush (v := (61 : Int32)) hx hb dX12_text_225 (by decide) ?_
                            refine lv_iload_n hx hb dX12_text_227 rfl (lv_at hl 1 rfl) ?_
                            refine lv_imul hx hb dX12_text_228 ?_
                            refine lv_iload_n hx hb dX12_text_229 rfl (lv_at hl 2 rfl) ?_
                            refine lv_iadd hx hb dX12_text_230 ?_
                            refine lv_aload_n hx hb dX12_text_231 rfl (lv_at hl 0 rfl) ?_
                            refine gtX12_107 hx hb hts hown hK hW cz12 dX12_text_232 ?_
                            refine lv_bipush (v := (122 : Int32)) hx hb dX12_text_235 (by decide) ?_
                            refine lv_iload_n hx hb dX12_text_237 rfl (lv_at hl 2 rfl) ?_
                            refine lv_iadd hx hb dX12_text_238 ?_
                            obtain ⟨hj, h⟩ := ix_a h
                            refine al81 hx hb hK hW cz81 hj dX12_text_239 ?_
                            refine lv_topi (fun v75 ev75 => ?_)
                            have h := nm_a ev75 h
                            obtain ⟨hj, h⟩ := ix_a h
                            refine as81 hx hb hK hW hS cz81 hj dX12_text_240 (fun H locs hW hS => ?_)
                            obtain ⟨M76, eM76⟩ : ∃ y, y = msI M74 8100 0 ((((61 : Int32) * x1) + i70).toNatClampNeg) (vp_nar .short v75) := ⟨_, rfl⟩
                            have h := nm_a eM76 h
                            rw [← eM76] at hW
                            obtain ⟨v77, ev77⟩ : ∃ y : Int32, y = i70 + (1 : Int32) := ⟨_, rfl⟩
                            have h := nm_a ev77 h
                            refine lv_iinc (v := v77) (lv' := [(2, .int v77), (0, .ref (ad 12 0)), (1, .int x1)]) hx hb dX12_text_241 hl (k := 2) rfl (by rw [ev77]; rfl) (by decide) rfl (fun ls hl => ?_)
                            refine lv_goto (tgt := 191) hx hb dX12_text_244 (by decide) ?_
                            exact ih69 v77 M76 _ _ _ hW hS (lv_sub hl [1, 2, 0] rfl) h
                      exact L69 FU (0 : Int32) M68 _ _ _ hW hS (lv_sub hl [1, 2, 0] rfl) h
                    · have h := sh_f c66 h
                      refine lv_aload_n hx hb dX12_text_127 rfl (lv_at hl 0 rfl) ?_
                      refine gtX12_94 hx hb hts hown hK hW cz12 dX12_text_128 ?_
                      refine lv_sipush (v := (130 : Int32)) hx hb dX12_text_131 (by decide) ?_
                      refine lv_iload_n hx hb dX12_text_134 rfl (lv_at hl 1 rfl) ?_
                      refine lv_imul hx hb dX12_text_135 ?_
                      refine lv_iload_n hx hb dX12_text_136 rfl (lv_at hl 2 rfl) ?_
                      refine lv_iadd hx hb dX12_text_137 ?_
                      refine lv_aload_n hx hb dX12_text_138 rfl (lv_at hl 0 rfl) ?_
                      refine gtX12_94 hx hb hts hown hK hW cz12 dX12_text_139 ?_
                      refine lv_sipush (v := (260 : Int32)) hx hb dX12_text_142 (by decide) ?_
                      refine lv_iload_n hx hb dX12_text_145 rfl (lv_at hl 2 rfl) ?_
                      refine lv_iadd hx hb dX12_text_146 ?_
                      obtain ⟨hj, h⟩ := ix_a h
                      refine al77 hx hb hK hW cz77 hj dX12_text_147 ?_
                      refine lv_topi (fun v78 ev78 => ?_)
                      have h := nm_a ev78 h
                      obtain ⟨hj, h⟩ := ix_a h
                      refine as77 hx hb hK hW hS cz77 hj dX12_text_148 (fun H locs hW hS => ?_)
                      obtain ⟨M79, eM79⟩ : ∃ y, y = msI M65 7700 0 ((((130 : Int32) * x1) + i64).toNatClampNeg) (vp_nar .byte v78) := ⟨_, rfl⟩
                      have h := nm_a eM79 h
                      rw [← eM79] at hW
                      refine lv_aload_n hx hb dX12_text_149 rfl (lv_at hl 0 rfl) ?_
                      refine gtX12_97 hx hb hts hown hK hW cz12 dX12_text_150 ?_
                      refine lv_sipush (v := (130 : Int32)) hx hb dX12_text_153 (by decide) ?_
                      refine lv_iload_n hx hb dX12_text_156 rfl (lv_at hl 1 rfl) ?_
                      refine lv_imul hx hb dX12_text_157 ?_
                      refine lv_iload_n hx hb dX12_text_158 rfl (lv_at hl 2 rfl) ?_
                      refine lv_iadd hx hb dX12_text_159 ?_
                      refine lv_aload_n hx hb dX12_text_160 rfl (lv_at hl 0 rfl) ?_
                      refine gtX12_97 hx hb hts hown hK hW cz12 dX12_text_161 ?_
                      refine lv_sipush (v := (260 : Int32)) hx hb dX12_text_164 (by decide) ?_
                      refine lv_iload_n hx hb dX12_text_167 rfl (lv_at hl 2 rfl) ?_
                      refine lv_iadd hx hb dX12_text_168 ?_
                      obtain ⟨hj, h⟩ := ix_a h
                      refine al78 hx hb hK hW cz78 hj dX12_text_169 ?_
                      refine lv_topi (fun v80 ev80 => ?_)
                      have h := nm_a ev80 h
                      obtain ⟨hj, h⟩ := ix_a h
                      refine as78 hx hb hK hW hS cz78 hj dX12_text_170 (fun H locs hW hS => ?_)
                      obtain ⟨M81, eM81⟩ : ∃ y, y = msI M79 7800 0 ((((130 : Int32) * x1) + i64).toNatClampNeg) v80 := ⟨_, rfl⟩
                      have h := nm_a eM81 h
                      rw [← eM81] at hW
                      obtain ⟨v82, ev82⟩ : ∃ y : Int32, y = i64 + (1 : Int32) := ⟨_, rfl⟩
                      have h := nm_a ev82 h
                      refine lv_iinc (v := v82) (lv' := [(2, .int v82), (0, .ref (ad 12 0)), (1, .int x1)]) hx hb dX12_text_171 hl (k := 2) rfl (by rw [ev82]; rfl) (by decide) rfl (fun ls hl => ?_)
                      refine lv_goto (tgt := 119) hx hb dX12_text_174 (by decide) ?_
                      exact ih63 v82 M81 _ _ _ hW hS (lv_sub hl [1, 2, 0] rfl) h
                exact L63 FU (0 : Int32) M61 _ _ _ hW hS (lv_sub hl [1, 2, 0] rfl) h
              · have h := sh_f c62 h
                refine lv_bipush (v := (-100 : Int32)) hx hb dX12_text_109 (by decide) ?_
                refine lv_aload_n hx hb dX12_text_111 rfl (lv_at hl 0 rfl) ?_
                refine gtX12_262 hx hb hts hown hK hW cz12 dX12_text_112 ?_
                refine lv_isub hx hb dX12_text_115 ?_
                exact tb_iretE h hx hb hr hS hW hlk dX12_text_116
        · have h := sh_f c12 h
          refine lv_aload_n hx hb dX12_text_49 rfl (lv_at hl 0 rfl) ?_
          obtain ⟨b83, hcb83, h⟩ := bd_a h
          refine tb_cVI hZk hx hb hml hown hts hK hZ hW hS [] (mX12_look (l := l) hZk M11 b83 hcb83) pmX12_look tw1590 (Wd.recv hK hW (t := 12) (by decide) cz12 (C := RX12) (T := TX12) (N := 58) rfl) ⟨Nat.le_of_ble_eq_true rfl, Nat.le_of_ble_eq_true rfl⟩ rfl hl.1 (Nat.le_of_ble_eq_true rfl) ⟨Nat.le_refl _, Nat.le_refl _⟩ rfl dX12_text_50 (fun H locs hW hS => ?_)
          refine lv_bipush (v := (59 : Int32)) hx hb dX12_text_53 (by decide) ?_
          refine lv_icmp_ne (tgt := 75) hx hb dX12_text_55 (by decide) (fun c84 => ?_) (fun c84 => ?_)
          · have h := sh_f c84 h
            refine lv_aload_n hx hb dX12_text_75 rfl (lv_at hl 0 rfl) ?_
            refine gtX12_262 hx hb hts hown hK hW cz12 dX12_text_76 ?_
            refine lv_if_ge (tgt := 97) hx hb dX12_text_79 (by decide) (fun c85 => ?_) (fun c85 => ?_)
            · have h := sh_t c85 h
              refine lv_aload_n hx hb dX12_text_97 rfl (lv_at hl 0 rfl) ?_
              refine lv_iconst (v := (0 : Int32)) hx hb dX12_text_98 (by decide) ?_
              refine ptX12_256 hx hb hts hown hK hW hS cz12 dX12_text_99 (fun H locs hW hS => ?_)
              obtain ⟨M86, eM86⟩ : ∃ y, y = msI M11 1233 0 0 (0 : Int32) := ⟨_, rfl⟩
              have h := nm_a eM86 h
              rw [← eM86] at hW
              refine lv_aload_n hx hb dX12_text_102 rfl (lv_at hl 0 rfl) ?_
              refine gtX12_262 hx hb hts hown hK hW cz12 dX12_text_103 ?_
              refine lv_if_lt (tgt := 117) hx hb dX12_text_106 (by decide) (fun c87 => ?_) (fun c87 => ?_)
              · have h := sh_t c87 h
                refine lv_iconst (v := (0 : Int32)) hx hb dX12_text_117 (by decide) ?_
                refine lv_istore_n (lv' := [(2, .int (0 : Int32)), (0, .ref (ad 12 0)), (1, .int x1)]) hx hb dX12_text_118 rfl hl (by decide) rfl (fun ls hl => ?_)
                have L88 : ∀ (n88 : Nat) (i89 : Int32) (M90 : Mem) (H : Heap) (locs : List Loc) (ls : Array Slot), Wd D cy A cnM ad M90 H → va_S A s.heap H locs → lv_has ls 3 [(0, .ref (ad 12 0)), (1, .int x1), (2, .int i89)] → fX12_text_l119_88 x1 n88 i89 M90 = some (r, M') → W p l e (rm 55 1146) s m args below meth c H locs 0 0 (MQ below (QI D cy A cnM ad r M') args s 0 0 A) (F0 m 119 ls []) := by
                  intro n88
                  induction n88 with
                  | zero => intro i89 M90 H locs ls hW hS hl h; cases h
                  | succ n88 ih88 =>
                    intro i89 M90 H locs ls hW hS hl h
                    unfold fX12_text_l119_88 fX12_text_b119_88 at h
                    refine lv_iload_n hx hb dX12_text_119 rfl (lv_at hl 2 rfl) ?_
                    refine lv_aload_n hx hb dX12_text_120 rfl (lv_at hl 0 rfl) ?_
                    refine gtX12_265 hx hb hts hown hK hW cz12 dX12_text_121 ?_
                    refine lv_icmp_ge (tgt := 177) hx hb dX12_text_124 (by decide) (fun c91 => ?_) (fun c91 => ?_)
                    · have h := sh_t c91 h
                      refine lv_aload_n hx hb dX12_text_177 rfl (lv_at hl 0 rfl) ?_
                      refine gtX12_100 hx hb hts hown hK hW cz12 dX12_text_178 ?_
                      refine lv_iload_n hx hb dX12_text_181 rfl (lv_at hl 1 rfl) ?_
                      refine lv_aload_n hx hb dX12_text_182 rfl (lv_at hl 0 rfl) ?_
                      refine gtX12_100 hx hb hts hown hK hW cz12 dX12_text_183 ?_
                      refine lv_iconst (v := (2 : Int32)) hx hb dX12_text_186 (by decide) ?_
                      refine al79 hx hb hK hW cz79 (vp_in_iff.mpr (by decide)) dX12_text_187 ?_
                      refine lv_topi (fun v92 ev92 => ?_)
                      have h := nm_a ev92 h
                      obtain ⟨hj, h⟩ := ix_a h
                      refine as79 hx hb hK hW hS cz79 hj dX12_text_188 (fun H locs hW hS => ?_)
                      obtain ⟨M93, eM93⟩ : ∃ y, y = msI M90 7900 0 x1.toNatClampNeg v92 := ⟨_, rfl⟩
                      have h := nm_a eM93 h
                      rw [← eM93] at hW
                      refine lv_iconst (v := (0 : Int32)) hx hb dX12_text_189 (by decide) ?_
                      refine lv_istore_n (lv' := [(2, .int (0 : Int32)), (0, .ref (ad 12 0)), (1, .int x1)]) hx hb dX12_text_190 rfl hl (by decide) rfl (fun ls hl => ?_)
                      have L94 : ∀ (n94 : Nat) (i95 : Int32) (M96 : Mem) (H : Heap) (locs : List Loc) (ls : Array Slot), Wd D cy A cnM ad M96 H → va_S A s.heap H locs → lv_has ls 3 [(0, .ref (ad 12 0)), (1, .int x1), (2, .int i95)] → fX12_text_l191_94 x1 n94 i95 M96 = some (r, M') → W p l e (rm 55 1146) s m args below meth c H locs 0 0 (MQ below (QI D cy A cnM ad r M') args s 0 0 A) (F0 m 191 ls []) := by
                        intro n94
                        induction n94 with
                        | zero => intro i95 M96 H locs ls hW hS hl h; cases h
                        | succ n94 ih94 =>
                          intro i95 M96 H locs ls hW hS hl h
                          unfold fX12_text_l191_94 fX12_text_b191_94 at h
                          refine lv_iload_n hx hb dX12_text_191 rfl (lv_at hl 2 rfl) ?_
                          refine lv_aload_n hx hb dX12_text_192 rfl (lv_at hl 0 rfl) ?_
                          refine gtX12_100 hx hb hts hown hK hW cz12 dX12_text_193 ?_
                          refine lv_iload_n hx hb dX12_text_196 rfl (lv_at hl 1 rfl) ?_
                          obtain ⟨hj, h⟩ := ix_a h
                          refine al79 hx hb hK hW cz79 hj dX12_text_197 ?_
                          refine lv_icmp_ge (tgt := 247) hx hb dX12_text_198 (by decide) (fun c97 => ?_) (fun c97 => ?_)
                          · have h := sh_t c97 h
                            refine lv_iconst (v := (1 : Int32)) hx hb dX12_text_247 (by decide) ?_
                            exact tb_iretE h hx hb hr hS hW hlk dX12_text_248
                          · have h := sh_f c97 h
                            refine lv_aload_n hx hb dX12_text_201 rfl (lv_at hl 0 rfl) ?_
                            refine gtX12_103 hx hb hts hown hK hW cz12 dX12_text_202 ?_
                            refine lv_bipush (v := (61 : Int32)) hx hb dX12_text_205 (by decide) ?_
                            refine lv_iload_n hx hb dX12_text_207 rfl (lv_at hl 1 rfl) ?_
                            refine lv_imul hx hb dX12_text_208 ?_
                            refine lv_iload_n hx hb dX12_text_209 rfl (lv_at hl 2 rfl) ?_
                            refine lv_iadd hx hb dX12_text_210 ?_
                            refine lv_aload_n hx hb dX12_text_211 rfl (lv_at hl 0 rfl) ?_
                            refine gtX12_103 hx hb hts hown hK hW cz12 dX12_text_212 ?_
                            refine lv_bipush (v := (122 : Int32)) hx hb dX12_text_215 (by decide) ?_
                            refine lv_iload_n hx hb dX12_text_217 rfl (lv_at hl 2 rfl) ?_
                            refine lv_iadd hx hb dX12_text_218 ?_
                            obtain ⟨hj, h⟩ := ix_a h
                            refine al80 hx hb hK hW cz80 hj dX12_text_219 ?_
                            refine lv_topi (fun v98 ev98 => ?_)
                            have h := nm_a ev98 h
                            obtain ⟨hj, h⟩ := ix_a h
                            refine as80 hx hb hK hW hS cz80 hj dX12_text_220 (fun H locs hW hS => ?_)
                            obtain ⟨M99, eM99⟩ : ∃ y, y = msI M96 8000 0 ((((61 : Int32) * x1) + i95).toNatClampNeg) (vp_nar .short v98) := ⟨_, rfl⟩
                            have h := nm_a eM99 h
                            rw [← eM99] at hW
                            refine lv_aload_n hx hb dX12_text_221 rfl (lv_at hl 0 rfl) ?_
                            refine gtX12_107 hx hb hts hown hK hW cz12 dX12_text_222 ?_
                            refine lv_bipush (v := (61 : Int32)) hx hb dX12_text_225 (by decide) ?_
                            refine lv_iload_n hx hb dX12_text_227 rfl (lv_at hl 1 rfl) ?_
                            refine lv_imul hx hb dX12_text_228 ?_
                            refine lv_iload_n hx hb dX12_text_229 rfl (lv_at hl 2 rfl) ?_
                            refine lv_iadd hx hb dX12_text_230 ?_
                            refine lv_aload_n hx hb dX12_text_231 rfl (lv_at hl 0 rfl) ?_
                            refine gtX12_107 hx hb hts hown hK hW cz12 dX12_text_232 ?_
                            refine lv_bipush (v := (122 : Int32)) hx hb dX12_text_235 (by decide) ?_
                            refine lv_iload_n hx hb dX12_text_237 rfl (lv_at hl 2 rfl) ?_
                            refine lv_iadd hx hb dX12_text_238 ?_
                            obtain ⟨hj, h⟩ := ix_a h
                            refine al81 hx hb hK hW cz81 hj dX12_text_239 ?_
                            refine lv_topi (fun v100 ev100 => ?_)
                            have h := nm_a ev100 h
                            obtain ⟨hj, h⟩ := ix_a h
                            refine as81 hx hb hK hW hS cz81 hj dX12_text_240 (fun H locs hW hS => ?_)
                            obtain ⟨M101, eM101⟩ : ∃ y, y = msI M99 8100 0 ((((61 : Int32) * x1) + i95).toNatClampNeg) (vp_nar .short v100) := ⟨_, rfl⟩
                            have h := nm_a eM101 h
                            rw [← eM101] at hW
                            obtain ⟨v102, ev102⟩ : ∃ y : Int32, y = i95 + (1 : Int32) := ⟨_, rfl⟩
                            have h := nm_a ev102 h
                            refine lv_iinc (v := v102) (lv' := [(2, .int v102), (0, .ref (ad 12 0)), (1, .int x1)]) hx hb dX12_text_241 hl (k := 2) rfl (by rw [ev102]; rfl) (by decide) rfl (fun ls hl => ?_)
                            refine lv_goto (tgt := 191) hx hb dX12_text_244 (by decide) ?_
                            exact ih94 v102 M101 _ _ _ hW hS (lv_sub hl [1, 2, 0] rfl) h
                      exact L94 FU (0 : Int32) M93 _ _ _ hW hS (lv_sub hl [1, 2, 0] rfl) h
                    · have h := sh_f c91 h
                      refine lv_aload_n hx hb dX12_text_127 rfl (lv_at hl 0 rfl) ?_
                      refine gtX12_94 hx hb hts hown hK hW cz12 dX12_text_128 ?_
                      refine lv_sipush (v := (130 : Int32)) hx hb dX12_text_131 (by decide) ?_
                      refine lv_iload_n hx hb dX12_text_134 rfl (lv_at hl 1 rfl) ?_
                      refine lv_imul hx hb dX12_text_135 ?_
                      refine lv_iload_n hx hb dX12_text_136 rfl (lv_at hl 2 rfl) ?_
                      refine lv_iadd hx hb dX12_text_137 ?_
                      refine lv_aload_n hx hb dX12_text_138 rfl (lv_at hl 0 rfl) ?_
                      refine gtX12_94 hx hb hts hown hK hW cz12 dX12_text_139 ?_
                      refine lv_sipush (v := (260 : Int32)) hx hb dX12_text_142 (by decide) ?_
                      refine lv_iload_n hx hb dX12_text_145 rfl (lv_at hl 2 rfl) ?_
                      refine lv_iadd hx hb dX12_text_146 ?_
                      obtain ⟨hj, h⟩ := ix_a h
                      refine al77 hx hb hK hW cz77 hj dX12_text_147 ?_
                      refine lv_topi (fun v103 ev103 => ?_)
                      have h := nm_a ev103 h
                      obtain ⟨hj, h⟩ := ix_a h
                      refine as77 hx hb hK hW hS cz77 hj dX12_text_148 (fun H locs hW hS => ?_)
                      obtain ⟨M104, eM104⟩ : ∃ y, y = msI M90 7700 0 ((((130 : Int32) * x1) + i89).toNatClampNeg) (vp_nar .byte v103) := ⟨_, rfl⟩
                      have h := nm_a eM104 h
                      rw [← eM104] at hW
                      refine lv_aload_n hx hb dX12_text_149 rfl (lv_at hl 0 rfl) ?_
                      refine gtX12_97 hx hb hts hown hK hW cz12 dX12_text_150 ?_
                      refine lv_sipush (v := (130 : Int32)) hx hb dX12_text_153 (by decide) ?_
                      refine lv_iload_n hx hb dX12_text_156 rfl (lv_at hl 1 rfl) ?_
                      refine lv_imul hx hb dX12_text_157 ?_
                      refine lv_iload_n hx hb dX12_text_158 rfl (lv_at hl 2 rfl) ?_
                      refine lv_iadd hx hb dX12_text_159 ?_
                      refine lv_aload_n hx hb dX12_text_160 rfl (lv_at hl 0 rfl) ?_
                      refine gtX12_97 hx hb hts hown hK hW cz12 dX12_text_161 ?_
                      refine lv_sipush (v := (260 : Int32)) hx hb dX12_text_164 (by decide) ?_
                      refine lv_iload_n hx hb dX12_text_167 rfl (lv_at hl 2 rfl) ?_
                      refine lv_iadd hx hb dX12_text_168 ?_
                      obtain ⟨hj, h⟩ := ix_a h
                      refine al78 hx hb hK hW cz78 hj dX12_text_169 ?_
                      refine lv_topi (fun v105 ev105 => ?_)
                      have h := nm_a ev105 h
                      obtain ⟨hj, h⟩ := ix_a h
                      refine as78 hx hb hK hW hS cz78 hj dX12_text_170 (fun H locs hW hS => ?_)
                      obtain ⟨M106, eM106⟩ : ∃ y, y = msI M104 7800 0 ((((130 : Int32) * x1) + i89).toNatClampNeg) v105 := ⟨_, rfl⟩
                      have h := nm_a eM106 h
                      rw [← eM106] at hW
                      obtain ⟨v107, ev107⟩ : ∃ y : Int32, y = i89 + (1 : Int32) := ⟨_, rfl⟩
                      have h := nm_a ev107 h
                      refine lv_iinc (v := v107) (lv' := [(2, .int v107), (0, .ref (ad 12 0)), (1, .int x1)]) hx hb dX12_text_171 hl (k := 2) rfl (by rw [ev107]; rfl) (by decide) rfl (fun ls hl => ?_)
                      refine lv_goto (tgt := 119) hx hb dX12_text_174 (by decide) ?_
                      exact ih88 v107 M106 _ _ _ hW hS (lv_sub hl [1, 2, 0] rfl) h
                exact L88 FU (0 : Int32) M86 _ _ _ hW hS (lv_sub hl [1, 2, 0] rfl) h
              · have h := sh_f c87 h
                refine lv_bipush (v := (-100 : Int32)) hx hb dX12_text_109 (by decide) ?_
                refine lv_aload_n hx hb dX12_text_111 rfl (lv_at hl 0 rfl) ?_
                refine gtX12_262 hx hb hts hown hK hW cz12 dX12_text_112 ?_
                refine lv_isub hx hb dX12_text_115 ?_
                exact tb_iretE h hx hb hr hS hW hlk dX12_text_116
            · have h := sh_f c85 h
              refine lv_aload_n hx hb dX12_text_82 rfl (lv_at hl 0 rfl) ?_
              refine gtX12_259 hx hb hts hown hK hW cz12 dX12_text_83 ?_
              refine lv_aload_n hx hb dX12_text_86 rfl (lv_at hl 0 rfl) ?_
              refine gtX12_256 hx hb hts hown hK hW cz12 dX12_text_87 ?_
              refine lv_icmp_ge (tgt := 97) hx hb dX12_text_90 (by decide) (fun c108 => ?_) (fun c108 => ?_)
              · have h := sh_t c108 h
                refine lv_aload_n hx hb dX12_text_97 rfl (lv_at hl 0 rfl) ?_
                refine lv_iconst (v := (0 : Int32)) hx hb dX12_text_98 (by decide) ?_
                refine ptX12_256 hx hb hts hown hK hW hS cz12 dX12_text_99 (fun H locs hW hS => ?_)
                obtain ⟨M109, eM109⟩ : ∃ y, y = msI M11 1233 0 0 (0 : Int32) := ⟨_, rfl⟩
                have h := nm_a eM109 h
                rw [← eM109] at hW
                refine lv_aload_n hx hb dX12_text_102 rfl (lv_at hl 0 rfl) ?_
                refine gtX12_262 hx hb hts hown hK hW cz12 dX12_text_103 ?_
                refine lv_if_lt (tgt := 117) hx hb dX12_text_106 (by decide) (fun c110 => ?_) (fun c110 => ?_)
                · have h := sh_t c110 h
                  refine lv_iconst (v := (0 : Int32)) hx hb dX12_text_117 (by decide) ?_
                  refine lv_istore_n (lv' := [(2, .int (0 : Int32)), (0, .ref (ad 12 0)), (1, .int x1)]) hx hb dX12_text_118 rfl hl (by decide) rfl (fun ls hl => ?_)
                  have L111 : ∀ (n111 : Nat) (i112 : Int32) (M113 : Mem) (H : Heap) (locs : List Loc) (ls : Array Slot), Wd D cy A cnM ad M113 H → va_S A s.heap H locs → lv_has ls 3 [(0, .ref (ad 12 0)), (1, .int x1), (2, .int i112)] → fX12_text_l119_111 x1 n111 i112 M113 = some (r, M') → W p l e (rm 55 1146) s m args below meth c H locs 0 0 (MQ below (QI D cy A cnM ad r M') args s 0 0 A) (F0 m 119 ls []) := by
                    intro n111
                    induction n111 with
                    | zero => intro i112 M113 H locs ls hW hS hl h; cases h
                    | succ n111 ih111 =>
                      intro i112 M113 H locs ls hW hS hl h
                      unfold fX12_text_l119_111 fX12_text_b119_111 at h
                      refine lv_iload_n hx hb dX12_text_119 rfl (lv_at hl 2 rfl) ?_
                      refine lv_aload_n hx hb dX12_text_120 rfl (lv_at hl 0 rfl) ?_
                      refine gtX12_265 hx hb hts hown hK hW cz12 dX12_text_121 ?_
                      refine lv_icmp_ge (tgt := 177) hx hb dX12_text_124 (by decide) (fun c114 => ?_) (fun c114 => ?_)
                      · have h := sh_t c114 h
                        refine lv_aload_n hx hb dX12_text_177 rfl (lv_at hl 0 rfl) ?_
                        refine gtX12_100 hx hb hts hown hK hW cz12 dX12_text_178 ?_
                        refine lv_iload_n hx hb dX12_text_181 rfl (lv_at hl 1 rfl) ?_
                        refine lv_aload_n hx hb dX12_text_182 rfl (lv_at hl 0 rfl) ?_
                        refine gtX12_100 hx hb hts hown hK hW cz12 dX12_text_183 ?_
                        refine lv_iconst (v := (2 : Int32)) hx hb dX12_text_186 (by decide) ?_
                        refine al79 hx hb hK hW cz79 (vp_in_iff.mpr (by decide)) dX12_text_187 ?_
                        refine lv_topi (fun v115 ev115 => ?_)
                        have h := nm_a ev115 h
                        obtain ⟨hj, h⟩ := ix_a h
                        refine as79 hx hb hK hW hS cz79 hj dX12_text_188 (fun H locs hW hS => ?_)
                        obtain ⟨M116, eM116⟩ : ∃ y, y = msI M113 7900 0 x1.toNatClampNeg v115 := ⟨_, rfl⟩
                        have h := nm_a eM116 h
                        rw [← eM116] at hW
                        refine lv_iconst (v := (0 : Int32)) hx hb dX12_text_189 (by decide) ?_
                        refine lv_istore_n (lv' := [(2, .int (0 : Int32)), (0, .ref (ad 12 0)), (1, .int x1)]) hx hb dX12_text_190 rfl hl (by decide) rfl (fun ls hl => ?_)
                        have L117 : ∀ (n117 : Nat) (i118 : Int32) (M119 : Mem) (H : Heap) (locs : List Loc) (ls : Array Slot), Wd D cy A cnM ad M119 H → va_S A s.heap H locs → lv_has ls 3 [(0, .ref (ad 12 0)), (1, .int x1), (2, .int i118)] → fX12_text_l191_117 x1 n117 i118 M119 = some (r, M') → W p l e (rm 55 1146) s m args below meth c H locs 0 0 (MQ below (QI D cy A cnM ad r M') args s 0 0 A) (F0 m 191 ls []) := by
                          intro n117
                          induction n117 with
                          | zero => intro i118 M119 H locs ls hW hS hl h; cases h
                          | succ n117 ih117 =>
                            intro i118 M119 H locs ls hW hS hl h
                            unfold fX12_text_l191_117 fX12_text_b191_117 at h
                            refine lv_iload_n hx hb dX12_text_191 rfl (lv_at hl 2 rfl) ?_
                            refine lv_aload_n hx hb dX12_text_192 rfl (lv_at hl 0 rfl) ?_
                            refine gtX12_100 hx hb hts hown hK hW cz12 dX12_text_193 ?_
                            refine lv_iload_n hx hb dX12_text_196 rfl (lv_at hl 1 rfl) ?_
                            obtain ⟨hj, h⟩ := ix_a h
                            refine al79 hx hb hK hW cz79 hj dX12_text_197 ?_
                            refine lv_icmp_ge (tgt := 247) hx hb dX12_text_198 (by decide) (fun c120 => ?_) (fun c120 => ?_)
                            · have h := sh_t c120 h
                              refine lv_iconst (v := (1 : Int32)) hx hb dX12_text_247 (by decide) ?_
                              exact tb_iretE h hx hb hr hS hW hlk dX12_text_248
                            · have h := sh_f c120 h
                              refine lv_aload_n hx hb dX12_text_201 rfl (lv_at hl 0 rfl) ?_
                              refine gtX12_103 hx hb hts hown hK hW cz12 dX12_text_202 ?_
                              refine lv_bipush (v := (61 : Int32)) hx hb dX12_text_205 (by decide) ?_
                              refine lv_iload_n hx hb dX12_text_207 rfl (lv_at hl 1 rfl) ?_
                              refine lv_imul hx hb dX12_text_208 ?_
                              refine lv_iload_n hx hb dX12_text_209 rfl (lv_at hl 2 rfl) ?_
                              refine lv_iadd hx hb dX12_text_210 ?_
                              refine lv_aload_n hx hb dX12_text_211 rfl (lv_at hl 0 rfl) ?_
                              refine gtX12_103 hx hb hts hown hK hW cz12 dX12_text_212 ?_
                              refine lv_bipush (v := (122 : Int32)) hx hb dX12_text_215 (by decide) ?_
                              refine lv_iload_n hx hb dX12_text_217 rfl (lv_at hl 2 rfl) ?_
                              refine lv_iadd hx hb dX12_text_218 ?_
                              obtain ⟨hj, h⟩ := ix_a h
                              refine al80 hx hb hK hW cz80 hj dX12_text_219 ?_
                              refine lv_topi (fun v121 ev121 => ?_)
                              have h := nm_a ev121 h
                              obtain ⟨hj, h⟩ := ix_a h
                              refine as80 hx hb hK hW hS cz80 hj dX12_text_220 (fun H locs hW hS => ?_)
                              obtain ⟨M122, eM122⟩ : ∃ y, y = msI M119 8000 0 ((((61 : Int32) * x1) + i118).toNatClampNeg) (vp_nar .short v121) := ⟨_, rfl⟩
                              have h := nm_a eM122 h
                              rw [← eM122] at hW
                              refine lv_aload_n hx hb dX12_text_221 rfl (lv_at hl 0 rfl) ?_
                              refine gtX12_107 hx hb hts hown hK hW cz12 dX12_text_222 ?_
                              refine lv_bipush (v := (61 : Int32)) hx hb dX12_text_225 (by decide) ?_
                              refine lv_iload_n hx hb dX12_text_227 rfl (lv_at hl 1 rfl) ?_
                              refine lv_imul hx hb dX12_text_228 ?_
                              refine lv_iload_n hx hb dX12_text_229 rfl (lv_at hl 2 rfl) ?_
                              refine lv_iadd hx hb dX12_text_230 ?_
                              refine lv_aload_n hx hb dX12_text_231 rfl (lv_at hl 0 rfl) ?_
                              refine gtX12_107 hx hb hts hown hK hW cz12 dX12_text_232 ?_
                              refine lv_bipush (v := (122 : Int32)) hx hb dX12_text_235 (by decide) ?_
                              refine lv_iload_n hx hb dX12_text_237 rfl (lv_at hl 2 rfl) ?_
                              refine lv_iadd hx hb dX12_text_238 ?_
                              obtain ⟨hj, h⟩ := ix_a h
                              refine al81 hx hb hK hW cz81 hj dX12_text_239 ?_
                              refine lv_topi (fun v123 ev123 => ?_)
                              have h := nm_a ev123 h
                              obtain ⟨hj, h⟩ := ix_a h
                              refine as81 hx hb hK hW hS cz81 hj dX12_text_240 (fun H locs hW hS => ?_)
                              obtain ⟨M124, eM124⟩ : ∃ y, y = msI M122 8100 0 ((((61 : Int32) * x1) + i118).toNatClampNeg) (vp_nar .short v123) := ⟨_, rfl⟩
                              have h := nm_a eM124 h
                              rw [← eM124] at hW
                              obtain ⟨v125, ev125⟩ : ∃ y : Int32, y = i118 + (1 : Int32) := ⟨_, rfl⟩
                              have h := nm_a ev125 h
                              refine lv_iinc (v := v125) (lv' := [(2, .int v125), (0, .ref (ad 12 0)), (1, .int x1)]) hx hb dX12_text_241 hl (k := 2) rfl (by rw [ev125]; rfl) (by decide) rfl (fun ls hl => ?_)
                              refine lv_goto (tgt := 191) hx hb dX12_text_244 (by decide) ?_
                              exact ih117 v125 M124 _ _ _ hW hS (lv_sub hl [1, 2, 0] rfl) h
                        exact L117 FU (0 : Int32) M116 _ _ _ hW hS (lv_sub hl [1, 2, 0] rfl) h
                      · have h := sh_f c114 h
                        refine lv_aload_n hx hb dX12_text_127 rfl (lv_at hl 0 rfl) ?_
                        refine gtX12_94 hx hb hts hown hK hW cz12 dX12_text_128 ?_
                        refine lv_sipush (v := (130 : Int32)) hx hb dX12_text_131 (by decide) ?_
                        refine lv_iload_n hx hb dX12_text_134 rfl (lv_at hl 1 rfl) ?_
                        refine lv_imul hx hb dX12_text_135 ?_
                        refine lv_iload_n hx hb dX12_text_136 rfl (lv_at hl 2 rfl) ?_
                        refine lv_iadd hx hb dX12_text_137 ?_
                        refine lv_aload_n hx hb dX12_text_138 rfl (lv_at hl 0 rfl) ?_
                        refine gtX12_94 hx hb hts hown hK hW cz12 dX12_text_139 ?_
                        refine lv_sipush (v := (260 : Int32)) hx hb dX12_text_142 (by decide) ?_
                        refine lv_iload_n hx hb dX12_text_145 rfl (lv_at hl 2 rfl) ?_
                        refine lv_iadd hx hb dX12_text_146 ?_
                        obtain ⟨hj, h⟩ := ix_a h
                        refine al77 hx hb hK hW cz77 hj dX12_text_147 ?_
                        refine lv_topi (fun v126 ev126 => ?_)
                        have h := nm_a ev126 h
                        obtain ⟨hj, h⟩ := ix_a h
                        refine as77 hx hb hK hW hS cz77 hj dX12_text_148 (fun H locs hW hS => ?_)
                        obtain ⟨M127, eM127⟩ : ∃ y, y = msI M113 7700 0 ((((130 : Int32) * x1) + i112).toNatClampNeg) (vp_nar .byte v126) := ⟨_, rfl⟩
                        have h := nm_a eM127 h
                        rw [← eM127] at hW
                        refine lv_aload_n hx hb dX12_text_149 rfl (lv_at hl 0 rfl) ?_
                        refine gtX12_97 hx hb hts hown hK hW cz12 dX12_text_150 ?_
                        refine lv_sipush (v := (130 : Int32)) hx hb dX12_text_153 (by decide) ?_
                        refine lv_iload_n hx hb dX12_text_156 rfl (lv_at hl 1 rfl) ?_
                        refine lv_imul hx hb dX12_text_157 ?_
                        refine lv_iload_n hx hb dX12_text_158 rfl (lv_at hl 2 rfl) ?_
                        refine lv_iadd hx hb dX12_text_159 ?_
                        refine lv_aload_n hx hb dX12_text_160 rfl (lv_at hl 0 rfl) ?_
                        refine gtX12_97 hx hb hts hown hK hW cz12 dX12_text_161 ?_
                        refine lv_sipush (v := (260 : Int32)) hx hb dX12_text_164 (by decide) ?_
                        refine lv_iload_n hx hb dX12_text_167 rfl (lv_at hl 2 rfl) ?_
                        refine lv_iadd hx hb dX12_text_168 ?_
                        obtain ⟨hj, h⟩ := ix_a h
                        refine al78 hx hb hK hW cz78 hj dX12_text_169 ?_
                        refine lv_topi (fun v128 ev128 => ?_)
                        have h := nm_a ev128 h
                        obtain ⟨hj, h⟩ := ix_a h
                        refine as78 hx hb hK hW hS cz78 hj dX12_text_170 (fun H locs hW hS => ?_)
                        obtain ⟨M129, eM129⟩ : ∃ y, y = msI M127 7800 0 ((((130 : Int32) * x1) + i112).toNatClampNeg) v128 := ⟨_, rfl⟩
                        have h := nm_a eM129 h
                        rw [← eM129] at hW
                        obtain ⟨v130, ev130⟩ : ∃ y : Int32, y = i112 + (1 : Int32) := ⟨_, rfl⟩
                        have h := nm_a ev130 h
                        refine lv_iinc (v := v130) (lv' := [(2, .int v130), (0, .ref (ad 12 0)), (1, .int x1)]) hx hb dX12_text_171 hl (k := 2) rfl (by rw [ev130]; rfl) (by decide) rfl (fun ls hl => ?_)
                        refine lv_goto (tgt := 119) hx hb dX12_text_174 (by decide) ?_
                        exact ih111 v130 M129 _ _ _ hW hS (lv_sub hl [1, 2, 0] rfl) h
                  exact L111 FU (0 : Int32) M109 _ _ _ hW hS (lv_sub hl [1, 2, 0] rfl) h
                · have h := sh_f c110 h
                  refine lv_bipush (v := (-100 : Int32)) hx hb dX12_text_109 (by decide) ?_
                  refine lv_aload_n hx hb dX12_text_111 rfl (lv_at hl 0 rfl) ?_
                  refine gtX12_262 hx hb hts hown hK hW cz12 dX12_text_112 ?_
                  refine lv_isub hx hb dX12_text_115 ?_
                  exact tb_iretE h hx hb hr hS hW hlk dX12_text_116
              · have h := sh_f c108 h
                refine lv_aload_n hx hb dX12_text_93 rfl (lv_at hl 0 rfl) ?_
                obtain ⟨u131, M132, hcu131, h⟩ := bE_a h
                refine tb_cVV hZk hx hb hml hown hts hK hZ hW hS [] (mX12_wrong (l := l) hZk M11 u131 M132 hcu131) pmX12_wrong tw1605 (Wd.recv hK hW (t := 12) (by decide) cz12 (C := RX12) (T := TX12) (N := 58) rfl) ⟨Nat.le_of_ble_eq_true rfl, Nat.le_of_ble_eq_true rfl⟩ rfl hl.1 (Nat.le_of_ble_eq_true rfl) ⟨Nat.le_refl _, Nat.le_refl _⟩ rfl dX12_text_94 (fun H locs hW hS => ?_)
                refine lv_aload_n hx hb dX12_text_97 rfl (lv_at hl 0 rfl) ?_
                refine lv_iconst (v := (0 : Int32)) hx hb dX12_text_98 (by decide) ?_
                refine ptX12_256 hx hb hts hown hK hW hS cz12 dX12_text_99 (fun H locs hW hS => ?_)
                obtain ⟨M133, eM133⟩ : ∃ y, y = msI M132 1233 0 0 (0 : Int32) := ⟨_, rfl⟩
                have h := nm_a eM133 h
                rw [← eM133] at hW
                refine lv_aload_n hx hb dX12_text_102 rfl (lv_at hl 0 rfl) ?_
                refine gtX12_262 hx hb hts hown hK hW cz12 dX12_text_103 ?_
                refine lv_if_lt (tgt := 117) hx hb dX12_text_106 (by decide) (fun c134 => ?_) (fun c134 => ?_)
                · have h := sh_t c134 h
                  refine lv_iconst (v := (0 : Int32)) hx hb dX12_text_117 (by decide) ?_
                  refine lv_istore_n (lv' := [(2, .int (0 : Int32)), (0, .ref (ad 12 0)), (1, .int x1)]) hx hb dX12_text_118 rfl hl (by decide) rfl (fun ls hl => ?_)
                  have L135 : ∀ (n135 : Nat) (i136 : Int32) (M137 : Mem) (H : Heap) (locs : List Loc) (ls : Array Slot), Wd D cy A cnM ad M137 H → va_S A s.heap H locs → lv_has ls 3 [(0, .ref (ad 12 0)), (1, .int x1), (2, .int i136)] → fX12_text_l119_135 x1 n135 i136 M137 = some (r, M') → W p l e (rm 55 1146) s m args below meth c H locs 0 0 (MQ below (QI D cy A cnM ad r M') args s 0 0 A) (F0 m 119 ls []) := by
                    intro n135
                    induction n135 with
                    | zero => intro i136 M137 H locs ls hW hS hl h; cases h
                    | succ n135 ih135 =>
                      intro i136 M137 H locs ls hW hS hl h
                      unfold fX12_text_l119_135 fX12_text_b119_135 at h
                      refine lv_iload_n hx hb dX12_text_119 rfl (lv_at hl 2 rfl) ?_
                      refine lv_aload_n hx hb dX12_text_120 rfl (lv_at hl 0 rfl) ?_
                      refine gtX12_265 hx hb hts hown hK hW cz12 dX12_text_121 ?_
                      refine lv_icmp_ge (tgt := 177) hx hb dX12_text_124 (by decide) (fun c138 => ?_) (fun c138 => ?_)
                      · have h := sh_t c138 h
                        refine lv_aload_n hx hb dX12_text_177 rfl (lv_at hl 0 rfl) ?_
                        refine gtX12_100 hx hb hts hown hK hW cz12 dX12_text_178 ?_
                        refine lv_iload_n hx hb dX12_text_181 rfl (lv_at hl 1 rfl) ?_
                        refine lv_aload_n hx hb dX12_text_182 rfl (lv_at hl 0 rfl) ?_
                        refine gtX12_100 hx hb hts hown hK hW cz12 dX12_text_183 ?_
                        refine lv_iconst (v := (2 : Int32)) hx hb dX12_text_186 (by decide) ?_
                        refine al79 hx hb hK hW cz79 (vp_in_iff.mpr (by decide)) dX12_text_187 ?_
                        refine lv_topi (fun v139 ev139 => ?_)
                        have h := nm_a ev139 h
                        obtain ⟨hj, h⟩ := ix_a h
                        refine as79 hx hb hK hW hS cz79 hj dX12_text_188 (fun H locs hW hS => ?_)
                        obtain ⟨M140, eM140⟩ : ∃ y, y = msI M137 7900 0 x1.toNatClampNeg v139 := ⟨_, rfl⟩
                        have h := nm_a eM140 h
                        rw [← eM140] at hW
                        refine lv_iconst (v := (0 : Int32)) hx hb dX12_text_189 (by decide) ?_
                        refine lv_istore_n (lv' := [(2, .int (0 : Int32)), (0, .ref (ad 12 0)), (1, .int x1)]) hx hb dX12_text_190 rfl hl (by decide) rfl (fun ls hl => ?_)
                        have L141 : ∀ (n141 : Nat) (i142 : Int32) (M143 : Mem) (H : Heap) (locs : List Loc) (ls : Array Slot), Wd D cy A cnM ad M143 H → va_S A s.heap H locs → lv_has ls 3 [(0, .ref (ad 12 0)), (1, .int x1), (2, .int i142)] → fX12_text_l191_141 x1 n141 i142 M143 = some (r, M') → W p l e (rm 55 1146) s m args below meth c H locs 0 0 (MQ below (QI D cy A cnM ad r M') args s 0 0 A) (F0 m 191 ls []) := by
                          intro n141
                          induction n141 with
                          | zero => intro i142 M143 H locs ls hW hS hl h; cases h
                          | succ n141 ih141 =>
                            intro i142 M143 H locs ls hW hS hl h
                            unfold fX12_text_l191_141 fX12_text_b191_141 at h
                            refine lv_iload_n hx hb dX12_text_191 rfl (lv_at hl 2 rfl) ?_
                            refine lv_aload_n hx hb dX12_text_192 rfl (lv_at hl 0 rfl) ?_
                            refine gtX12_100 hx hb hts hown hK hW cz12 dX12_text_193 ?_
                            refine lv_iload_n hx hb dX12_text_196 rfl (lv_at hl 1 rfl) ?_
                            obtain ⟨hj, h⟩ := ix_a h
                            refine al79 hx hb hK hW cz79 hj dX12_text_197 ?_
                            refine lv_icmp_ge (tgt := 247) hx hb dX12_text_198 (by decide) (fun c144 => ?_) (fun c144 => ?_)
                            · have h := sh_t c144 h
                              refine lv_iconst (v := (1 : Int32)) hx hb dX12_text_247 (by decide) ?_
                              exact tb_iretE h hx hb hr hS hW hlk dX12_text_248
                            · have h := sh_f c144 h
                              refine lv_aload_n hx hb dX12_text_201 rfl (lv_at hl 0 rfl) ?_
                              refine gtX12_103 hx hb hts hown hK hW cz12 dX12_text_202 ?_
                              refine lv_bipush (v := (61 : Int32)) hx hb dX12_text_205 (by decide) ?_
                              refine lv_iload_n hx hb dX12_text_207 rfl (lv_at hl 1 rfl) ?_
                              refine lv_imul hx hb dX12_text_208 ?_
                              refine lv_iload_n hx hb dX12_text_209 rfl (lv_at hl 2 rfl) ?_
                              refine lv_iadd hx hb dX12_text_210 ?_
                              refine lv_aload_n hx hb dX12_text_211 rfl (lv_at hl 0 rfl) ?_
                              refine gtX12_103 hx hb hts hown hK hW cz12 dX12_text_212 ?_
                              refine lv_bipush (v := (122 : Int32)) hx hb dX12_text_215 (by decide) ?_
                              refine lv_iload_n hx hb dX12_text_217 rfl (lv_at hl 2 rfl) ?_
                              refine lv_iadd hx hb dX12_text_218 ?_
                              obtain ⟨hj, h⟩ := ix_a h
                              refine al80 hx hb hK hW cz80 hj dX12_text_219 ?_
                              refine lv_topi (fun v145 ev145 => ?_)
                              have h := nm_a ev145 h
                              obtain ⟨hj, h⟩ := ix_a h
                              refine as80 hx hb hK hW hS cz80 hj dX12_text_220 (fun H locs hW hS => ?_)
                              obtain ⟨M146, eM146⟩ : ∃ y, y = msI M143 8000 0 ((((61 : Int32) * x1) + i142).toNatClampNeg) (vp_nar .short v145) := ⟨_, rfl⟩
                              have h := nm_a eM146 h
                              rw [← eM146] at hW
                              refine lv_aload_n hx hb dX12_text_221 rfl (lv_at hl 0 rfl) ?_
                              refine gtX12_107 hx hb hts hown hK hW cz12 dX12_text_222 ?_
                              refine lv_bipush (v := (61 : Int32)) hx hb dX12_text_225 (by decide) ?_
                              refine lv_iload_n hx hb dX12_text_227 rfl (lv_at hl 1 rfl) ?_
                              refine lv_imul hx hb dX12_text_228 ?_
                              refine lv_iload_n hx hb dX12_text_229 rfl (lv_at hl 2 rfl) ?_
                              refine lv_iadd hx hb dX12_text_230 ?_
                              refine lv_aload_n hx hb dX12_text_231 rfl (lv_at hl 0 rfl) ?_
                              refine gtX12_107 hx hb hts hown hK hW cz12 dX12_text_232 ?_
                              refine lv_bipush (v := (122 : Int32)) hx hb dX12_text_235 (by decide) ?_
                              refine lv_iload_n hx hb dX12_text_237 rfl (lv_at hl 2 rfl) ?_
                              refine lv_iadd hx hb dX12_text_238 ?_
                              obtain ⟨hj, h⟩ := ix_a h
                              refine al81 hx hb hK hW cz81 hj dX12_text_239 ?_
                              refine lv_topi (fun v147 ev147 => ?_)
                              have h := nm_a ev147 h
                              obtain ⟨hj, h⟩ := ix_a h
                              refine as81 hx hb hK hW hS cz81 hj dX12_text_240 (fun H locs hW hS => ?_)
                              obtain ⟨M148, eM148⟩ : ∃ y, y = msI M146 8100 0 ((((61 : Int32) * x1) + i142).toNatClampNeg) (vp_nar .short v147) := ⟨_, rfl⟩
                              have h := nm_a eM148 h
                              rw [← eM148] at hW
                              obtain ⟨v149, ev149⟩ : ∃ y : Int32, y = i142 + (1 : Int32) := ⟨_, rfl⟩
                              have h := nm_a ev149 h
                              refine lv_iinc (v := v149) (lv' := [(2, .int v149), (0, .ref (ad 12 0)), (1, .int x1)]) hx hb dX12_text_241 hl (k := 2) rfl (by rw [ev149]; rfl) (by decide) rfl (fun ls hl => ?_)
                              refine lv_goto (tgt := 191) hx hb dX12_text_244 (by decide) ?_
                              exact ih141 v149 M148 _ _ _ hW hS (lv_sub hl [1, 2, 0] rfl) h
                        exact L141 FU (0 : Int32) M140 _ _ _ hW hS (lv_sub hl [1, 2, 0] rfl) h
                      · have h := sh_f c138 h
                        refine lv_aload_n hx hb dX12_text_127 rfl (lv_at hl 0 rfl) ?_
                        refine gtX12_94 hx hb hts hown hK hW cz12 dX12_text_128 ?_
                        refine lv_sipush (v := (130 : Int32)) hx hb dX12_text_131 (by decide) ?_
                        refine lv_iload_n hx hb dX12_text_134 rfl (lv_at hl 1 rfl) ?_
                        refine lv_imul hx hb dX12_text_135 ?_
                        refine lv_iload_n hx hb dX12_text_136 rfl (lv_at hl 2 rfl) ?_
                        refine lv_iadd hx hb dX12_text_137 ?_
                        refine lv_aload_n hx hb dX12_text_138 rfl (lv_at hl 0 rfl) ?_
                        refine gtX12_94 hx hb hts hown hK hW cz12 dX12_text_139 ?_
                        refine lv_sipush (v := (260 : Int32)) hx hb dX12_text_142 (by decide) ?_
                        refine lv_iload_n hx hb dX12_text_145 rfl (lv_at hl 2 rfl) ?_
                        refine lv_iadd hx hb dX12_text_146 ?_
                        obtain ⟨hj, h⟩ := ix_a h
                        refine al77 hx hb hK hW cz77 hj dX12_text_147 ?_
                        refine lv_topi (fun v150 ev150 => ?_)
                        have h := nm_a ev150 h
                        obtain ⟨hj, h⟩ := ix_a h
                        refine as77 hx hb hK hW hS cz77 hj dX12_text_148 (fun H locs hW hS => ?_)
                        obtain ⟨M151, eM151⟩ : ∃ y, y = msI M137 7700 0 ((((130 : Int32) * x1) + i136).toNatClampNeg) (vp_nar .byte v150) := ⟨_, rfl⟩
                        have h := nm_a eM151 h
                        rw [← eM151] at hW
                        refine lv_aload_n hx hb dX12_text_149 rfl (lv_at hl 0 rfl) ?_
                        refine gtX12_97 hx hb hts hown hK hW cz12 dX12_text_150 ?_
                        refine lv_sipush (v := (130 : Int32)) hx hb dX12_text_153 (by decide) ?_
                        refine lv_iload_n hx hb dX12_text_156 rfl (lv_at hl 1 rfl) ?_
                        refine lv_imul hx hb dX12_text_157 ?_
                        refine lv_iload_n hx hb dX12_text_158 rfl (lv_at hl 2 rfl) ?_
                        refine lv_iadd hx hb dX12_text_159 ?_
                        refine lv_aload_n hx hb dX12_text_160 rfl (lv_at hl 0 rfl) ?_
                        refine gtX12_97 hx hb hts hown hK hW cz12 dX12_text_161 ?_
                        refine lv_sipush (v := (260 : Int32)) hx hb dX12_text_164 (by decide) ?_
                        refine lv_iload_n hx hb dX12_text_167 rfl (lv_at hl 2 rfl) ?_
                        refine lv_iadd hx hb dX12_text_168 ?_
                        obtain ⟨hj, h⟩ := ix_a h
                        refine al78 hx hb hK hW cz78 hj dX12_text_169 ?_
                        refine lv_topi (fun v152 ev152 => ?_)
                        have h := nm_a ev152 h
                        obtain ⟨hj, h⟩ := ix_a h
                        refine as78 hx hb hK hW hS cz78 hj dX12_text_170 (fun H locs hW hS => ?_)
                        obtain ⟨M153, eM153⟩ : ∃ y, y = msI M151 7800 0 ((((130 : Int32) * x1) + i136).toNatClampNeg) v152 := ⟨_, rfl⟩
                        have h := nm_a eM153 h
                        rw [← eM153] at hW
                        obtain ⟨v154, ev154⟩ : ∃ y : Int32, y = i136 + (1 : Int32) := ⟨_, rfl⟩
                        have h := nm_a ev154 h
                        refine lv_iinc (v := v154) (lv' := [(2, .int v154), (0, .ref (ad 12 0)), (1, .int x1)]) hx hb dX12_text_171 hl (k := 2) rfl (by rw [ev154]; rfl) (by decide) rfl (fun ls hl => ?_)
                        refine lv_goto (tgt := 119) hx hb dX12_text_174 (by decide) ?_
                        exact ih135 v154 M153 _ _ _ hW hS (lv_sub hl [1, 2, 0] rfl) h
                  exact L135 FU (0 : Int32) M133 _ _ _ hW hS (lv_sub hl [1, 2, 0] rfl) h
                · have h := sh_f c134 h
                  refine lv_bipush (v := (-100 : Int32)) hx hb dX12_text_109 (by decide) ?_
                  refine lv_aload_n hx hb dX12_text_111 rfl (lv_at hl 0 rfl) ?_
                  refine gtX12_262 hx hb hts hown hK hW cz12 dX12_text_112 ?_
                  refine lv_isub hx hb dX12_text_115 ?_
                  exact tb_iretE h hx hb hr hS hW hlk dX12_text_116
          · have h := sh_t c84 h
            refine lv_aload_n hx hb dX12_text_58 rfl (lv_at hl 0 rfl) ?_
            refine lv_dup hx hb dX12_text_59 rfl ?_
            refine gtX12_259 hx hb hts hown hK hW cz12 dX12_text_60 ?_
            refine lv_iconst (v := (1 : Int32)) hx hb dX12_text_63 (by decide) ?_
            refine lv_iadd hx hb dX12_text_64 ?_
            refine lv_topi (fun v155 ev155 => ?_)
            have h := nm_a ev155 h
            refine ptX12_259 hx hb hts hown hK hW hS cz12 dX12_text_65 (fun H locs hW hS => ?_)
            obtain ⟨M156, eM156⟩ : ∃ y, y = msI M11 1234 0 0 v155 := ⟨_, rfl⟩
            have h := nm_a eM156 h
            rw [← eM156] at hW
            refine lv_aload_n hx hb dX12_text_68 rfl (lv_at hl 0 rfl) ?_
            obtain ⟨u157, M158, hcu157, h⟩ := bE_a h
            refine tb_cVV hZk hx hb hml hown hts hK hZ hW hS [] (mX12_readLine (l := l) hZk M156 u157 M158 hcu157) pmX12_readLine tw1562 (Wd.recv hK hW (t := 12) (by decide) cz12 (C := RX12) (T := TX12) (N := 58) rfl) ⟨Nat.le_of_ble_eq_true rfl, Nat.le_of_ble_eq_true rfl⟩ rfl hl.1 (Nat.le_of_ble_eq_true rfl) ⟨Nat.le_refl _, Nat.le_refl _⟩ rfl dX12_text_69 (fun H locs hW hS => ?_)
            refine lv_goto (tgt := 42) hx hb dX12_text_72 (by decide) ?_
            exact ih10 M158 _ _ _ hW hS (lv_sub hl [0, 1] rfl) h
    exact L10 FU M9 _ _ _ hW hS (lv_sub hl [0, 1] rfl) h
  · have h := sh_t c2 h
    refine lv_iconst (v := (-1 : Int32)) hx hb dX12_text_9 (by decide) ?_
    exact tb_iretE h hx hb hr hS hW hlk dX12_text_10
