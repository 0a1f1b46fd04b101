section FW
variable {p : Program} {l : Launch} {e : Env} {R : Room} {s : State} {m : MethodId} {args : Array Value} {below : List Frame} {meth : Method} {c : Code} {H : Heap} {locs : List Loc} {cells slots : Nat} {Q : State → Prop}
variable {cc : ByteArray} {pc : Nat} {ls : Array Slot} {rest : List Value} {D : va_G} {cy : Nat → ClassId} {A : Nat → Prop} {cn : Nat → Nat} {ad : Nat → Nat → Nat} {M : Mem}

theorem gtX5_34 (hx : p.tables.exec = Jvm.exec) (hb : c.code = cc) (hts : ∀ w ∈ lw_tg, w.before args s = true) (hown : s.vm.findClass RX5 = some m.cls) (hK : va_K D vwCl (tysA cy) s) (hW : Wd D cy A cn ad M H) {i : Nat} (hi : i < cn 5) (hdg : decode cc pc = .ok (.getfield 34, 3)) (kk : W p l e R s m args below meth c H locs cells slots Q (F0 m (pc + 3) ls (.int (mgI M 504 i 0) :: rest))) : W p l e R s m args below meth c H locs cells slots Q (F0 m pc ls (.ref (ad 5 i) :: rest)) := tb_get hx hb hts hown hK hW 5 4 inX5 rfl (by decide) (by decide) (by decide) hi tw129 rfl hdg kk
theorem gtX5_60 (hx : p.tables.exec = Jvm.exec) (hb : c.code = cc) (hts : ∀ w ∈ lw_tg, w.before args s = true) (hown : s.vm.findClass RX5 = some m.cls) (hK : va_K D vwCl (tysA cy) s) (hW : Wd D cy A cn ad M H) {i : Nat} (hi : i < cn 8) (hdg : decode cc pc = .ok (.getfield 60, 3)) (kk : W p l e R s m args below meth c H locs cells slots Q (F0 m (pc + 3) ls (.int (mgI M 812 i 0) :: rest))) : W p l e R s m args below meth c H locs cells slots Q (F0 m pc ls (.ref (ad 8 i) :: rest)) := tb_get hx hb hts hown hK hW 8 12 inX8 rfl (by decide) (by decide) (by decide) hi tw455 rfl hdg kk
theorem ptX5_27 (hx : p.tables.exec = Jvm.exec) (hb : c.code = cc) (hts : ∀ w ∈ lw_tg, w.before args s = true) (hown : s.vm.findClass RX5 = some m.cls) (hK : va_K D vwCl (tysA cy) s) (hW : Wd D cy A cn ad M H) (hS : va_S A s.heap H locs) {i : Nat} (hi : i < cn 5) {v : Int32} (hdg : decode cc pc = .ok (.putfield 27, 3)) (kk : ∀ (H1 : Heap) (locs1 : List Loc), Wd D cy A cn ad (msI M 502 i 0 v) H1 → va_S A s.heap H1 locs1 → W p l e R s m args below meth c H1 locs1 cells slots Q (F0 m (pc + 3) ls rest)) : W p l e R s m args below meth c H locs cells slots Q (F0 m pc ls (.int v :: .ref (ad 5 i) :: rest)) := tb_putI hx hb hts hown hK hW hS 5 2 inX5 rfl (by decide) (by decide) (by decide) tyX5 tyX5_ok nmX5 hi tw122 rfl (by decide) (ty := .int) (tyX5_ok 2 (by decide)) rfl rfl rfl hdg kk
theorem ptX5_31 (hx : p.tables.exec = Jvm.exec) (hb : c.code = cc) (hts : ∀ w ∈ lw_tg, w.before args s = true) (hown : s.vm.findClass RX5 = some m.cls) (hK : va_K D vwCl (tysA cy) s) (hW : Wd D cy A cn ad M H) (hS : va_S A s.heap H locs) {i : Nat} (hi : i < cn 5) {v : Int32} (hdg : decode cc pc = .ok (.putfield 31, 3)) (kk : ∀ (H1 : Heap) (locs1 : List Loc), Wd D cy A cn ad (msI M 503 i 0 v) H1 → va_S A s.heap H1 locs1 → W p l e R s m args below meth c H1 locs1 cells slots Q (F0 m (pc + 3) ls rest)) : W p l e R s m args below meth c H locs cells slots Q (F0 m pc ls (.int v :: .ref (ad 5 i) :: rest)) := tb_putI hx hb hts hown hK hW hS 5 3 inX5 rfl (by decide) (by decide) (by decide) tyX5 tyX5_ok nmX5 hi tw126 rfl (by decide) (ty := .int) (tyX5_ok 3 (by decide)) rfl rfl rfl hdg kk
theorem ptX5_46 (hx : p.tables.exec = Jvm.exec) (hb : c.code = cc) (hts : ∀ w ∈ lw_tg, w.before args s = true) (hown : s.vm.findClass RX5 = some m.cls) (hK : va_K D vwCl (tysA cy) s) (hW : Wd D cy A cn ad M H) (hS : va_S A s.heap H locs) {i : Nat} (hi : i < cn 8) {v : Int64} (hdg : decode cc pc = .ok (.putfield 46, 3)) (kk : ∀ (H1 : Heap) (locs1 : List Loc), Wd D cy A cn ad (msL M 814 i 0 v) H1 → va_S A s.heap H1 locs1 → W p l e R s m args below meth c H1 locs1 cells slots Q (F0 m (pc + 3) ls rest)) : W p l e R s m args below meth c H locs cells slots Q (F0 m pc ls (.long v :: .ref (ad 8 i) :: rest)) := tb_putL hx hb hts hown hK hW hS 8 14 inX8 rfl (by decide) (by decide) (by decide) tyX8 tyX8_ok nmX8 hi tw460 rfl (by decide) (ty := .long) (tyX8_ok 14 (by decide)) rfl rfl rfl hdg kk
theorem ptX5_60 (hx : p.tables.exec = Jvm.exec) (hb : c.code = cc) (hts : ∀ w ∈ lw_tg, w.before args s = true) (hown : s.vm.findClass RX5 = some m.cls) (hK : va_K D vwCl (tysA cy) s) (hW : Wd D cy A cn ad M H) (hS : va_S A s.heap H locs) {i : Nat} (hi : i < cn 8) {v : Int32} (hdg : decode cc pc = .ok (.putfield 60, 3)) (kk : ∀ (H1 : Heap) (locs1 : List Loc), Wd D cy A cn ad (msI M 812 i 0 v) H1 → va_S A s.heap H1 locs1 → W p l e R s m args below meth c H1 locs1 cells slots Q (F0 m (pc + 3) ls rest)) : W p l e R s m args below meth c H locs cells slots Q (F0 m pc ls (.int v :: .ref (ad 8 i) :: rest)) := tb_putI hx hb hts hown hK hW hS 8 12 inX8 rfl (by decide) (by decide) (by decide) tyX8 tyX8_ok nmX8 hi tw455 rfl (by decide) (ty := .int) (tyX8_ok 12 (by decide)) rfl rfl rfl hdg kk
end FW
theorem cit_lt {x4 i : Int32} {c : Nat} (h1 : x4 ≤ (20 : Int32)) (h2 : ¬ x4 ≤ i) (hi : i = nI c) (hc : c ≤ 20) : c < 20 := by
  have e1 : x4.toInt ≤ (20 : Int32).toInt := Int32.le_iff_toInt_le.mp h1
  have e2 : i.toInt < x4.toInt := Int32.lt_iff_toInt_lt.mp (Int32.not_le.mp h2)
  rw [hi, nI_toInt (by omega)] at e2
  have e3 : (20 : Int32).toInt = 20 := by decide
  omega
def fX5_addStone (nS : Nat) (nL : Nat) (x1 : Int32) (x2 : Int32) (x3 : Int32) (M0 : Mem) : Option ((Int32 × Nat × Nat) × Mem) :=
  nm (mNS M0 nS (mgI M0 502 0 0) x1 (mgI M0 504 0 0) x2 x3) fun M3 => ix (mgI M0 502 0 0) 64 <| nm (msR M3 3200 0 (mgI M0 502 0 0).toNatClampNeg (some nS)) fun M4 => nm (mgI M4 502 0 0) fun v5 => nm (v5 + (1 : Int32)) fun v6 => nm (msI M4 502 0 0 v6) fun M7 => some ((v5, (nS + 1), nL), M7)
set_option maxHeartbeats 4000000 in
set_option maxRecDepth 100000 in
theorem mX5_addStone {l : Launch} {D : va_G} {cy : Nat → ClassId} {A : Nat → Prop} {K : KC} {nS nL : Nat} {ad : Nat → Nat → Nat} (hZk : ZOK A (ZC A K)) (x1 : Int32) (x2 : Int32) (x3 : Int32) (M0 : Mem) (r : Int32) (M' : Mem) (nS' nL' : Nat) (h : fX5_addStone nS nL x1 x2 x3 M0 = some ((r, nS', nL'), M')) : Met l yX5_addStone (wt yX5_addStone cX5_addStone 4 (some .int)) (rmk 2 2 36 37) (CPreA D cy A (ZC A K) (cnC nS nL) ad M0 [.ref (ad 5 0), .int x1, .int x2, .int x3]) (QG D cy A nS nL ad r M' nS' nL') 2 36 A := by
  refine tb_startA [.ref (ad 5 0), .int x1, .int x2, .int x3] [(0, .ref (ad 5 0)), (1, .int x1), (2, .int x2), (3, .int x3)] RX5 rfl (by decide +kernel) (Nat.le_of_ble_eq_true rfl) rfl (fun p e s m args below meth c hx hb hr hml hown hts hlk hW hK hZ hAn ls hl => ?_)
  have hS : va_S A s.heap s.heap [] := va_S.rf
  unfold fX5_addStone at h
  refine lv_aload_n hx hb dX5_addStone_0 rfl (lv_at hl 0 rfl) ?_
  refine gtX5_11 hx hb hts hown hK hW cz5 dX5_addStone_1 ?_
  refine lv_aload_n hx hb dX5_addStone_4 rfl (lv_at hl 0 rfl) ?_
  refine gtX5_27 hx hb hts hown hK hW cz5 dX5_addStone_5 ?_
  have hN0 : va_P D vwCl [] s.heap := fun k q h => by simp at h
  have hN1 : va_D A [] := ⟨fun i j p q h => by simp at h, fun k q h => by simp at h⟩
  refine tb_new (ws := []) (fs := [.int 0, .int 0, .int 0, .int 0, .int 0, .null, .int 0, .int 0, .int 0, .int 0, .int 0, .int 0, .int 0, .null, .long 0, .long 0]) hx hb hts hown 8 inX8 tyX8 tyX8_ok rfl tw113 tw412 tw89 hK hN0 hN1 hS hAn (fun j hj => by rcases (show j = 0 ∨ j = 1 ∨ j = 2 ∨ j = 3 ∨ j = 4 ∨ j = 5 ∨ j = 6 ∨ j = 7 ∨ j = 8 ∨ j = 9 ∨ j = 10 ∨ j = 11 ∨ j = 12 ∨ j = 13 ∨ j = 14 ∨ j = 15 by omega) with rfl | rfl | rfl | rfl | rfl | rfl | rfl | rfl | rfl | rfl | rfl | rfl | rfl | rfl | rfl | rfl <;> rfl) (Nat.le_of_ble_eq_true rfl) (Nat.le_of_ble_eq_true rfl) dX5_addStone_8 (fun q1 H hPq1 hDq1 hS hoq1 hqq1 hzq1 => ?_)
  have hltq1 : ∀ t i, i < (cnC nS nL) t → (t < 13 ∨ 20 ≤ t) → ad t i < q1 := fun t i hi ht => by rw [hqq1]; exact hW.lt hi ht
  have hPq1 : va_P D vwCl [(q1, .inr (8, [.int 0, .int 0, .int 0, .int 0, .int 0, .null, .int 0, .int 0, .int 0, .int 0, .int 0, .int 0, .int 0, .null, .long 0, .long 0]))] H := hPq1
  have hDq1 : va_D A [(q1, .inr (8, [.int 0, .int 0, .int 0, .int 0, .int 0, .null, .int 0, .int 0, .int 0, .int 0, .int 0, .int 0, .int 0, .null, .long 0, .long 0]))] := hDq1
  replace hW := hW.kept (fun t i hi ht => hoq1 _ (hW.lt hi ht))
  refine lv_dup hx hb dX5_addStone_11 rfl ?_
  refine lv_aload_n hx hb dX5_addStone_12 rfl (lv_at hl 0 rfl) ?_
  refine gtX5_27 hx hb hts hown hK hW cz5 dX5_addStone_13 ?_
  refine lv_iload_n hx hb dX5_addStone_16 rfl (lv_at hl 1 rfl) ?_
  refine lv_aload_n hx hb dX5_addStone_17 rfl (lv_at hl 0 rfl) ?_
  refine gtX5_34 hx hb hts hown hK hW cz5 dX5_addStone_18 ?_
  refine lv_iload_n hx hb dX5_addStone_21 rfl (lv_at hl 2 rfl) ?_
  refine lv_iload_n hx hb dX5_addStone_22 rfl (lv_at hl 3 rfl) ?_
  have hszu2 : q1 < H.size := by rw [hqq1, hzq1]; exact Nat.lt_succ_self _
  refine tb_cIi hZk hx hb hml hown hts hK hPq1 hDq1 hS hAn (fun _ h => h) hZ [.int (mgI M0 502 0 0), .int x1, .int (mgI M0 504 0 0), .int x2, .int x3] (mX8_init (l := l) (Z := (ZC A K)) q1 (mgI M0 502 0 0) x1 (mgI M0 504 0 0) x2 x3 H.size hZk (hDq1.2 0 _ rfl) (fun z hz => hAn z (Nat.le_trans hS.1 hz))) pmX8_init tw413 ⟨Nat.le_of_ble_eq_true rfl, Nat.le_of_ble_eq_true rfl⟩ rfl rfl 0 rfl [] (wr := []) rfl (by decide) (by decide) rfl hl.1 (Nat.le_of_ble_eq_true rfl) ⟨Nat.le_of_ble_eq_true rfl, Nat.le_of_ble_eq_true rfl⟩ rfl dX5_addStone_23 (fun u2 H locs hPu2 hDu2 hS hou2 hzu2 hVu2 => ?_)
  replace hW := hW.kept (fun t i hi ht => hou2 _ (hW.lt hi ht) (Nat.ne_of_lt (hltq1 t i hi ht)))
  have hgr := hW.addStone (n := (mgI M0 502 0 0)) (k := x1) (mo := (mgI M0 504 0 0)) (a := x2) (b := x3) (q := q1) (u := u2) hPu2 (tb_apS hltq1 hszu2 (fun e => absurd (hDu2.1 0 1 _ _ rfl rfl e) (by decide)) (hVu2.2 1 _ rfl)) (fun e => absurd (hDu2.1 0 1 _ _ rfl rfl e) (by decide)) (hDu2.2 0 _ rfl) (hDu2.2 1 _ rfl)
  obtain ⟨ad3, ead3⟩ : ∃ y, y = adS ad nS q1 (u2 0) := ⟨_, rfl⟩
  obtain ⟨M3, eM3⟩ : ∃ y, y = mNS M0 nS (mgI M0 502 0 0) x1 (mgI M0 504 0 0) x2 x3 := ⟨_, rfl⟩
  replace h := nm_a eM3 h
  rw [← ead3, ← eM3] at hgr
  replace hW := hgr
  have hadad3 : ∀ t i, i < cnC nS nL t → ad3 t i = ad t i := fun t i hi => by rw [ead3]; exact adS_ne _ _ _ _ _ _ (fun ht => by rcases ht with rfl | rfl <;> exact Nat.ne_of_lt hi)
  have hl : lv_has ls 4 [(0, .ref (ad3 5 0)), (1, .int x1), (2, .int x2), (3, .int x3)] := by rw [ead3]; exact hl
  refine W.eq (g2 := F0 m 26 ls [.ref (ad3 8 nS), .int (mgI M0 502 0 0), .ref (ad3 32 0)]) (by first | (rw [ead3, adS_8]; done) | (rw [ead3, adS_8]; rfl)) ?_
  replace h := ix_a h
  obtain ⟨hj, h⟩ := h
  refine as32 hx hb hK hW hS cz32 (Nat.lt_succ_self _) hj dX5_addStone_26 (fun H locs hW hS => ?_)
  obtain ⟨M4, eM4⟩ : ∃ y, y = msR M3 3200 0 (mgI M0 502 0 0).toNatClampNeg (some nS) := ⟨_, rfl⟩
  replace h := nm_a eM4 h
  rw [← eM4] at hW
  refine lv_aload_n hx hb dX5_addStone_27 rfl (lv_at hl 0 rfl) ?_
  refine lv_dup hx hb dX5_addStone_28 rfl ?_
  refine gtX5_27 hx hb hts hown hK hW cz5 dX5_addStone_29 ?_
  refine lv_topi (fun v5 ev5 => ?_)
  replace h := nm_a ev5 h
  refine lv_dup_x1 hx hb dX5_addStone_32 rfl rfl ?_
  refine lv_iconst (v := (1 : Int32)) hx hb dX5_addStone_33 (by decide) ?_
  refine lv_iadd hx hb dX5_addStone_34 ?_
  refine lv_topi (fun v6 ev6 => ?_)
  replace h := nm_a ev6 h
  refine ptX5_27 hx hb hts hown hK hW hS cz5 dX5_addStone_35 (fun H locs hW hS => ?_)
  obtain ⟨M7, eM7⟩ : ∃ y, y = msI M4 502 0 0 v6 := ⟨_, rfl⟩
  replace h := nm_a eM7 h
  rw [← eM7] at hW
  refine W.widen (k := 2) (n := 36) (Nat.le_of_ble_eq_true rfl) (Nat.le_of_ble_eq_true rfl) ?_
  exact tb_gret h hadad3 (cnC_S _ _) hx hb hr hS hW hlk dX5_addStone_38
def fX5_addLine (nS : Nat) (nL : Nat) (x1 : Option Nat) (x2 : Int32) (x3 : Int32) (x4 : Int32) (M0 : Mem) : Option ((Int32 × Nat × Nat) × Mem) :=
  oc x1 none fun a2 => nm (mgR M0 813 a2 0) fun o3 => nm (mNL M0 nL (mgI M0 800 a2 0) x2 x3 x4 o3) fun M5 => ix (mgI M5 503 0 0) 200 <| nm (msR M5 3300 0 (mgI M5 503 0 0).toNatClampNeg (some nL)) fun M6 => nm (msR M6 813 a2 0 (some nL)) fun M7 => nm ((mgI M7 812 a2 0) + (1 : Int32)) fun v8 => nm (msI M7 812 a2 0 v8) fun M9 => nm ((mgL M9 814 a2 0) ||| (fX11_bit x2)) fun v10 => nm (msL M9 814 a2 0 v10) fun M11 => bE (fX5_reachFrom (mgI M11 800 a2 0) M11) fun u12 M13 => nm (mgI M13 503 0 0) fun v14 => nm (v14 + (1 : Int32)) fun v15 => nm (msI M13 503 0 0 v15) fun M16 => some ((v14, nS, (nL + 1)), M16)
set_option maxHeartbeats 4000000 in
set_option maxRecDepth 100000 in
theorem mX5_addLine {l : Launch} {D : va_G} {cy : Nat → ClassId} {A : Nat → Prop} {K : KC} {nS nL : Nat} {ad : Nat → Nat → Nat} (hZk : ZOK A (ZC A K)) (x1 : Option Nat) (x2 : Int32) (x3 : Int32) (x4 : Int32) (M0 : Mem) (hx1 : ∀ z, x1 = some z → z < (cnC nS nL) 8) (r : Int32) (M' : Mem) (nS' nL' : Nat) (h : fX5_addLine nS nL x1 x2 x3 x4 M0 = some ((r, nS', nL'), M')) : Met l yX5_addLine (wt yX5_addLine cX5_addLine 6 (some .int)) (rmk 2 1 6 45) (CPreA D cy A (ZC A K) (cnC nS nL) ad M0 [.ref (ad 5 0), rv (ad 8) x1, .int x2, .int x3, .int x4]) (QG D cy A nS nL ad r M' nS' nL') 1 6 A := by
  refine tb_startA [.ref (ad 5 0), rv (ad 8) x1, .int x2, .int x3, .int x4] [(0, .ref (ad 5 0)), (1, rv (ad 8) x1), (2, .int x2), (3, .int x3), (4, .int x4)] RX5 rfl (by decide +kernel) (by simp [lg_sl, List.flatMap_cons, rv_cat, cat_r, cat_i, cat_l]) (by simp [lv_args, rv_cat, cat_r, cat_i, cat_l]) (fun p e s m args below meth c hx hb hr hml hown hts hlk hW hK hZ hAn ls hl => ?_)
  have hS : va_S A s.heap s.heap [] := va_S.rf
  unfold fX5_addLine at h
  have hN0 : va_P D vwCl [] s.heap := fun k q h => by simp at h
  have hN1 : va_D A [] := ⟨fun i j p q h => by simp at h, fun k q h => by simp at h⟩
  refine tb_new (ws := []) (fs := [.int 0, .int 0, .null, .int 0, .int 0, .int 0]) hx hb hts hown 4 inX4 tyX4 tyX4_ok rfl tw115 tw523 tw90 hK hN0 hN1 hS hAn (fun j hj => by rcases (show j = 0 ∨ j = 1 ∨ j = 2 ∨ j = 3 ∨ j = 4 ∨ j = 5 by omega) with rfl | rfl | rfl | rfl | rfl | rfl <;> rfl) (Nat.le_of_ble_eq_true rfl) (Nat.le_of_ble_eq_true rfl) dX5_addLine_0 (fun q1 H hPq1 hDq1 hS hoq1 hqq1 hzq1 => ?_)
  have hltq1 : ∀ t i, i < (cnC nS nL) t → (t < 13 ∨ 20 ≤ t) → ad t i < q1 := fun t i hi ht => by rw [hqq1]; exact hW.lt hi ht
  have hPq1 : va_P D vwCl [(q1, .inr (4, [.int 0, .int 0, .null, .int 0, .int 0, .int 0]))] H := hPq1
  have hDq1 : va_D A [(q1, .inr (4, [.int 0, .int 0, .null, .int 0, .int 0, .int 0]))] := hDq1
  replace hW := hW.kept (fun t i hi ht => hoq1 _ (hW.lt hi ht))
  refine lv_dup hx hb dX5_addLine_3 rfl ?_
  refine tb_aload_n hx hb dX5_addLine_4 rfl (lv_at hl 1 rfl) ?_
  replace h := oc_d h
  obtain ⟨a2, ea2, h⟩ := h
  subst ea2
  have la2 := hx1 _ rfl
  refine gtX5_43 hx hb hts hown hK hW la2 dX5_addLine_5 ?_
  refine lv_iload_n hx hb dX5_addLine_8 rfl (lv_at hl 2 rfl) ?_
  refine lv_iload_n hx hb dX5_addLine_9 rfl (lv_at hl 3 rfl) ?_
  refine lv_iload hx hb dX5_addLine_10 (lv_at hl 4 rfl) ?_
  refine lv_aload_n hx hb dX5_addLine_12 rfl (lv_at hl 1 rfl) ?_
  refine gtX5_54 hx hb hts hown hK hW la2 dX5_addLine_13 ?_
  refine tb_topr (fun o3 eo3 => ?_)
  replace h := nm_a eo3 h
  have ho3 : ∀ z, o3 = some z → z < (cnC nS nL) 4 := fun z hz => hW.ref 1 rfl (eo3.symm.trans hz)
  have hszu4 : q1 < H.size := by rw [hqq1, hzq1]; exact Nat.lt_succ_self _
  refine tb_cIi hZk hx hb hml hown hts hK hPq1 hDq1 hS hAn (fun _ h => h) hZ [.int (mgI M0 800 a2 0), .int x2, .int x3, .int x4, rv (ad 4) o3] (mX4_init (l := l) (Z := (ZC A K)) q1 (mgI M0 800 a2 0) x2 x3 x4 (rv (ad 4) o3) H.size hZk (hDq1.2 0 _ rfl) (fun z hz => hAn z (Nat.le_trans hS.1 hz)) ⟨by cases o3 <;> rfl, by cases o3 <;> rfl⟩ ⟨_, _, rfl⟩) pmX4_init tw524 ⟨Nat.le_of_ble_eq_true rfl, Nat.le_of_ble_eq_true rfl⟩ rfl rfl 0 rfl [] (wr := []) rfl (by decide) (by decide) rfl hl.1 (Nat.le_of_ble_eq_true rfl) ⟨Nat.le_of_ble_eq_true rfl, Nat.le_of_ble_eq_true rfl⟩ rfl dX5_addLine_16 (fun u4 H locs hPu4 hDu4 hS hou4 hzu4 hVu4 => ?_)
  replace hW := hW.kept (fun t i hi ht => hou4 _ (hW.lt hi ht) (Nat.ne_of_lt (hltq1 t i hi ht)))
  have hgr := hW.addLine (q := q1) (u := u4) (nx := o3) (fun z hz => ho3 z hz) hPu4 (tb_apL hltq1) (hDu4.2 0 _ rfl)
  obtain ⟨ad5, ead5⟩ : ∃ y, y = adL ad nL q1 := ⟨_, rfl⟩
  obtain ⟨M5, eM5⟩ : ∃ y, y = mNL M0 nL (mgI M0 800 a2 0) x2 x3 x4 o3 := ⟨_, rfl⟩
  replace h := nm_a eM5 h
  rw [← ead5, ← eM5] at hgr
  replace hW := hgr
  have hadad5 : ∀ t i, i < cnC nS nL t → ad5 t i = ad t i := fun t i hi => by rw [ead5]; exact adL_ne _ _ _ _ _ (fun ht => by subst ht; exact Nat.ne_of_lt hi)
  have hl : lv_has ls 6 [(0, .ref (ad5 5 0)), (1, .ref (ad5 8 a2)), (2, .int x2), (3, .int x3), (4, .int x4)] := by rw [ead5]; exact hl
  refine W.eq (g2 := F0 m 19 ls [.ref (ad5 4 nL)]) (by first | (rw [ead5, adL_4]; done) | (rw [ead5, adL_4]; rfl)) ?_
  refine lv_astore (lv' := [(5, .ref (ad5 4 nL)), (0, .ref (ad5 5 0)), (1, .ref (ad5 8 a2)), (2, .int x2), (3, .int x3), (4, .int x4)]) hx hb dX5_addLine_19 hl (by decide) rfl (fun ls hl => ?_)
  refine lv_aload_n hx hb dX5_addLine_21 rfl (lv_at hl 1 rfl) ?_
  refine gtX5_19 hx hb hts hown hK hW cz5 dX5_addLine_22 ?_
  refine lv_aload_n hx hb dX5_addLine_25 rfl (lv_at hl 1 rfl) ?_
  refine gtX5_31 hx hb hts hown hK hW cz5 dX5_addLine_26 ?_
  refine lv_aload hx hb dX5_addLine_29 (lv_at hl 0 rfl) ?_
  replace h := ix_a h
  obtain ⟨hj, h⟩ := h
  refine as33 hx hb hK hW hS cz33 (Nat.lt_succ_self _) hj dX5_addLine_31 (fun H locs hW hS => ?_)
  obtain ⟨M6, eM6⟩ : ∃ y, y = msR M5 3300 0 (mgI M5 503 0 0).toNatClampNeg (some nL) := ⟨_, rfl⟩
  replace h := nm_a eM6 h
  rw [← eM6] at hW
  refine lv_aload_n hx hb dX5_addLine_32 rfl (lv_at hl 2 rfl) ?_
  refine lv_aload hx hb dX5_addLine_33 (lv_at hl 0 rfl) ?_
  refine ptX5_54 hx hb hts hown hK hW hS (Nat.lt_of_lt_of_le la2 (cnC_L _ _ _)) (Nat.lt_succ_self _) dX5_addLine_35 (fun H locs hW hS => ?_)
  obtain ⟨M7, eM7⟩ : ∃ y, y = msR M6 813 a2 0 (some nL) := ⟨_, rfl⟩
  replace h := nm_a eM7 h
  rw [← eM7] at hW
  refine lv_aload_n hx hb dX5_addLine_38 rfl (lv_at hl 2 rfl) ?_
  refine lv_dup hx hb dX5_addLine_39 rfl ?_
  refine gtX5_60 hx hb hts hown hK hW (Nat.lt_of_lt_of_le la2 (cnC_L _ _ _)) dX5_addLine_40 ?_
  refine lv_iconst (v := (1 : Int32)) hx hb dX5_addLine_43 (by decide) ?_
  refine lv_iadd hx hb dX5_addLine_44 ?_
  refine lv_topi (fun v8 ev8 => ?_)
  replace h := nm_a ev8 h
  refine ptX5_60 hx hb hts hown hK hW hS (Nat.lt_of_lt_of_le la2 (cnC_L _ _ _)) dX5_addLine_45 (fun H locs hW hS => ?_)
  obtain ⟨M9, eM9⟩ : ∃ y, y = msI M7 812 a2 0 v8 := ⟨_, rfl⟩
  replace h := nm_a eM9 h
  rw [← eM9] at hW
  refine lv_aload_n hx hb dX5_addLine_48 rfl (lv_at hl 2 rfl) ?_
  refine lv_dup hx hb dX5_addLine_49 rfl ?_
  refine gtX5_46 hx hb hts hown hK hW (Nat.lt_of_lt_of_le la2 (cnC_L _ _ _)) dX5_addLine_50 ?_
  refine lv_iload_n hx hb dX5_addLine_53 rfl (lv_at hl 3 rfl) ?_
  refine tb_cNL hZk hx hb hml hown hts hK hZ hW hS [.int x2] (mX11_bit (l := l) hZk x2 M9 (fX11_bit x2) rfl) pmX11_bit (hZ.2.2.2.2.2.1 7 _ rfl) ⟨Nat.le_of_ble_eq_true rfl, Nat.le_of_ble_eq_true rfl⟩ rfl hl.1 (Nat.le_of_ble_eq_true rfl) ⟨Nat.le_of_ble_eq_true rfl, Nat.le_of_ble_eq_true rfl⟩ rfl dX5_addLine_54 (fun H locs hW hS => ?_)
  refine lv_lor hx hb dX5_addLine_57 ?_
  refine lv_topl (fun v10 ev10 => ?_)
  replace h := nm_a ev10 h
  refine ptX5_46 hx hb hts hown hK hW hS (Nat.lt_of_lt_of_le la2 (cnC_L _ _ _)) dX5_addLine_58 (fun H locs hW hS => ?_)
  obtain ⟨M11, eM11⟩ : ∃ y, y = msL M9 814 a2 0 v10 := ⟨_, rfl⟩
  replace h := nm_a eM11 h
  rw [← eM11] at hW
  refine lv_aload_n hx hb dX5_addLine_61 rfl (lv_at hl 1 rfl) ?_
  refine lv_aload_n hx hb dX5_addLine_62 rfl (lv_at hl 2 rfl) ?_
  refine gtX5_43 hx hb hts hown hK hW (Nat.lt_of_lt_of_le la2 (cnC_L _ _ _)) dX5_addLine_63 ?_
  replace h := bE_a h
  obtain ⟨u12, M13, hcu12, h⟩ := h
  refine tb_cVV hZk hx hb hml hown hts hK hZ hW hS [.int (mgI M11 800 a2 0)] (mX5_reachFrom (l := l) hZk (mgI M11 800 a2 0) M11 u12 M13 hcu12) pmX5_reachFrom tw572 (Wd.recv hK hW (t := 5) (by decide) cz5 (C := RX5) (T := TX5) (N := 7) rfl) ⟨Nat.le_of_ble_eq_true rfl, Nat.le_of_ble_eq_true rfl⟩ rfl hl.1 (Nat.le_of_ble_eq_true rfl) ⟨Nat.le_of_ble_eq_true rfl, Nat.le_of_ble_eq_true rfl⟩ rfl dX5_addLine_66 (fun H locs hW hS => ?_)
  refine lv_aload_n hx hb dX5_addLine_69 rfl (lv_at hl 1 rfl) ?_
  refine lv_dup hx hb dX5_addLine_70 rfl ?_
  refine gtX5_31 hx hb hts hown hK hW cz5 dX5_addLine_71 ?_
  refine lv_topi (fun v14 ev14 => ?_)
  replace h := nm_a ev14 h
  refine lv_dup_x1 hx hb dX5_addLine_74 rfl rfl ?_
  refine lv_iconst (v := (1 : Int32)) hx hb dX5_addLine_75 (by decide) ?_
  refine lv_iadd hx hb dX5_addLine_76 ?_
  refine lv_topi (fun v15 ev15 => ?_)
  replace h := nm_a ev15 h
  refine ptX5_31 hx hb hts hown hK hW hS cz5 dX5_addLine_77 (fun H locs hW hS => ?_)
  obtain ⟨M16, eM16⟩ : ∃ y, y = msI M13 503 0 0 v15 := ⟨_, rfl⟩
  replace h := nm_a eM16 h
  rw [← eM16] at hW
  refine W.widen (k := 1) (n := 6) (Nat.le_of_ble_eq_true rfl) (Nat.le_of_ble_eq_true rfl) ?_
  exact tb_gret h hadad5 (cnC_L _ _) hx hb hr hS hW hlk dX5_addLine_80
def fX11_stone (nS : Nat) (nL : Nat) (x1 : Int32) (x2 : Int32) (x3 : Int32) (M0 : Mem) : Option ((Int32 × Nat × Nat) × Mem) :=
  nm (fX11_mayCome x1 x2 x3) fun b1 => if b1 = 0 then (some (((-1 : Int32), nS, nL), M0)) else (if (mgI M0 502 0 0) < (64 : Int32) then (bE (fX5_addStone nS nL x1 x2 x3 M0) fun b4 M5 => some ((b4.1, b4.2.1, b4.2.2), M5)) else (some (((-3 : Int32), nS, nL), M0)))
set_option maxHeartbeats 4000000 in
set_option maxRecDepth 100000 in
theorem mX11_stone {l : Launch} {D : va_G} {cy : Nat → ClassId} {A : Nat → Prop} {K : KC} {nS nL : Nat} {ad : Nat → Nat → Nat} (hZk : ZOK A (ZC A K)) (x1 : Int32) (x2 : Int32) (x3 : Int32) (M0 : Mem) (r : Int32) (M' : Mem) (nS' nL' : Nat) (h : fX11_stone nS nL x1 x2 x3 M0 = some ((r, nS', nL'), M')) : Met l yX11_stone (wt yX11_stone cX11_stone 4 (some .int)) (rmk 3 2 36 60) (CPreA D cy A (ZC A K) (cnC nS nL) ad M0 [.ref (ad 11 0), .int x1, .int x2, .int x3]) (QG D cy A nS nL ad r M' nS' nL') 2 36 A := by
  refine tb_startA [.ref (ad 11 0), .int x1, .int x2, .int x3] [(0, .ref (ad 11 0)), (1, .int x1), (2, .int x2), (3, .int x3)] RX11 rfl (by decide +kernel) (Nat.le_of_ble_eq_true rfl) rfl (fun p e s m args below meth c hx hb hr hml hown hts hlk hW hK hZ hAn ls hl => ?_)
  have hS : va_S A s.heap s.heap [] := va_S.rf
  unfold fX11_stone at h
  refine lv_iload_n hx hb dX11_stone_0 rfl (lv_at hl 1 rfl) ?_
  refine lv_iload_n hx hb dX11_stone_1 rfl (lv_at hl 2 rfl) ?_
  refine lv_iload_n hx hb dX11_stone_2 rfl (lv_at hl 3 rfl) ?_
  refine tb_cSZ hZk hx hb hml hown hts hK hZ hW hS [.int x1, .int x2, .int x3] (mX11_mayCome (l := l) hZk x1 x2 x3 M0 (fX11_mayCome x1 x2 x3) rfl) pmX11_mayCome tw402 ⟨Nat.le_of_ble_eq_true rfl, Nat.le_of_ble_eq_true rfl⟩ rfl hl.1 (Nat.le_of_ble_eq_true rfl) ⟨Nat.le_of_ble_eq_true rfl, Nat.le_of_ble_eq_true rfl⟩ rfl dX11_stone_3 (fun H locs hW hS hzz => ?_)
  refine lv_topi (fun b1 eb1 => ?_)
  replace h := nm_a eb1 h
  have hzb1 : b1 = 0 ∨ b1 = 1 := by rw [eb1]; exact hzz
  refine lv_if_ne (tgt := 11) hx hb dX11_stone_6 (by decide) (fun c2 => ?_) (fun c2 => ?_)
  · replace h := sh_f c2 h
    refine lv_aload_n hx hb dX11_stone_11 rfl (lv_at hl 0 rfl) ?_
    refine gtX11_10 hx hb hts hown hK hW cz11 dX11_stone_12 ?_
    refine gtX11_73 hx hb hts hown hK hW cz5 dX11_stone_15 ?_
    refine lv_bipush (v := (64 : Int32)) hx hb dX11_stone_18 (by decide) ?_
    refine lv_icmp_lt (tgt := 26) hx hb dX11_stone_20 (by decide) (fun c3 => ?_) (fun c3 => ?_)
    · replace h := sh_t c3 h
      refine lv_aload_n hx hb dX11_stone_26 rfl (lv_at hl 0 rfl) ?_
      refine gtX11_10 hx hb hts hown hK hW cz11 dX11_stone_27 ?_
      refine lv_iload_n hx hb dX11_stone_30 rfl (lv_at hl 1 rfl) ?_
      refine lv_iload_n hx hb dX11_stone_31 rfl (lv_at hl 2 rfl) ?_
      refine lv_iload_n hx hb dX11_stone_32 rfl (lv_at hl 3 rfl) ?_
      replace h := bE_a h
      obtain ⟨b4, M5, hcb4, h⟩ := h
      refine tb_cVA hZk hx hb hml hown hts hK hZ hW hS hAn [.int x1, .int x2, .int x3] (mX5_addStone (l := l) hZk x1 x2 x3 M0 b4.1 M5 b4.2.1 b4.2.2 hcb4) pmX5_addStone tw408 (Wd.recv hK hW (t := 5) (by decide) cz5 (C := RX5) (T := TX5) (N := 7) rfl) ⟨Nat.le_of_ble_eq_true rfl, Nat.le_of_ble_eq_true rfl⟩ rfl hl.1 (Nat.le_of_ble_eq_true rfl) ⟨Nat.le_of_ble_eq_true rfl, Nat.le_of_ble_eq_true rfl⟩ rfl dX11_stone_33 (fun ad6 H locs hW had6 hmo6 hS => ?_)
      have ek6_0 := had6 11 0 cz11
      rw [← ek6_0] at hl
      refine W.widen (k := 2) (n := 36) (Nat.le_of_ble_eq_true rfl) (Nat.le_of_ble_eq_true rfl) ?_
      exact tb_gret h had6 hmo6 hx hb hr hS hW hlk dX11_stone_36
    · replace h := sh_f c3 h
      refine lv_bipush (v := (-3 : Int32)) hx hb dX11_stone_23 (by decide) ?_
      refine W.widen (k := 2) (n := 36) (Nat.le_of_ble_eq_true rfl) (Nat.le_of_ble_eq_true rfl) ?_
      exact tb_gret h (fun _ _ _ => rfl) (fun _ => Nat.le_refl _) hx hb hr hS hW hlk dX11_stone_25
  · replace h := sh_t c2 h
    refine lv_iconst (v := (-1 : Int32)) hx hb dX11_stone_9 (by decide) ?_
    refine W.widen (k := 2) (n := 36) (Nat.le_of_ble_eq_true rfl) (Nat.le_of_ble_eq_true rfl) ?_
    exact tb_gret h (fun _ _ _ => rfl) (fun _ => Nat.le_refl _) hx hb hr hS hW hlk dX11_stone_10
def fX11_line (nS : Nat) (nL : Nat) (x1 : Int32) (x2 : Int32) (x3 : Int32) (M0 : Mem) : Option ((Int32 × Nat × Nat) × Mem) :=
  bd (fX5_stoneAt x1 M0) fun o1 => oc o1 (some (((-1 : Int32), nS, nL), M0)) fun a2 => bd (fX5_mayStand (some a2) x2 M0) fun b3 => if b3 = 0 then (some (((-1 : Int32), nS, nL), M0)) else (if 0 ≤ x3 then (nm (x3 / (100 : Int32)) fun v6 => nm (x3 - x3 / (100 : Int32) * (100 : Int32)) fun v7 => nm (fX11_isSense v6) fun b8 => if b8 = 0 then (some (((-1 : Int32), nS, nL), M0)) else (nm (fX11_isWeight v7) fun b10 => if b10 = 0 then (some (((-1 : Int32), nS, nL), M0)) else (if (mgI M0 503 0 0) < (200 : Int32) then (bE (fX5_addLine nS nL (some a2) x2 v7 v6 M0) fun b13 M14 => some ((b13.1, b13.2.1, b13.2.2), M14)) else (some (((-3 : Int32), nS, nL), M0))))) else (some (((-1 : Int32), nS, nL), M0)))
set_option maxHeartbeats 4000000 in
set_option maxRecDepth 100000 in
theorem mX11_line {l : Launch} {D : va_G} {cy : Nat → ClassId} {A : Nat → Prop} {K : KC} {nS nL : Nat} {ad : Nat → Nat → Nat} (hZk : ZOK A (ZC A K)) (x1 : Int32) (x2 : Int32) (x3 : Int32) (M0 : Mem) (r : Int32) (M' : Mem) (nS' nL' : Nat) (h : fX11_line nS nL x1 x2 x3 M0 = some ((r, nS', nL'), M')) : Met l yX11_line (wt yX11_line cX11_line 7 (some .int)) (rmk 3 1 6 70) (CPreA D cy A (ZC A K) (cnC nS nL) ad M0 [.ref (ad 11 0), .int x1, .int x2, .int x3]) (QG D cy A nS nL ad r M' nS' nL') 1 6 A := by
  refine tb_startA [.ref (ad 11 0), .int x1, .int x2, .int x3] [(0, .ref (ad 11 0)), (1, .int x1), (2, .int x2), (3, .int x3)] RX11 rfl (by decide +kernel) (Nat.le_of_ble_eq_true rfl) rfl (fun p e s m args below meth c hx hb hr hml hown hts hlk hW hK hZ hAn ls hl => ?_)
  have hS : va_S A s.heap s.heap [] := va_S.rf
  unfold fX11_line at h
  refine lv_aload_n hx hb dX11_line_0 rfl (lv_at hl 0 rfl) ?_
  refine gtX11_10 hx hb hts hown hK hW cz11 dX11_line_1 ?_
  refine lv_iload_n hx hb dX11_line_4 rfl (lv_at hl 1 rfl) ?_
  replace h := bd_a h
  obtain ⟨o1, hco1, h⟩ := h
  refine tb_cVR hZk hx hb hml hown hts hK hZ hW hS [.int x1] (mX5_stoneAt (l := l) hZk x1 M0 o1 hco1) pmX5_stoneAt tw502 (Wd.recv hK hW (t := 5) (by decide) cz5 (C := RX5) (T := TX5) (N := 7) rfl) ⟨Nat.le_of_ble_eq_true rfl, Nat.le_of_ble_eq_true rfl⟩ rfl hl.1 (Nat.le_of_ble_eq_true rfl) ⟨Nat.le_of_ble_eq_true rfl, Nat.le_of_ble_eq_true rfl⟩ rfl dX11_line_5 (fun H locs hW hS hrr => ?_)
  have ho1 := hrr
  refine tb_astore (lv' := [(4, rv (ad 8) o1), (0, .ref (ad 11 0)), (1, .int x1), (2, .int x2), (3, .int x3)]) hx hb dX11_line_8 hl (by decide) rfl (fun ls hl => ?_)
  refine tb_aload hx hb dX11_line_10 (lv_at hl 0 rfl) ?_
  refine tb_ifnull (tgt := 32) hx hb dX11_line_12 (by decide) (fun e0 => ?_) (fun a2 ea2 => ?_)
  · replace h := oc_n e0 h
    subst e0
    refine lv_iconst (v := (-1 : Int32)) hx hb dX11_line_32 (by decide) ?_
    refine W.widen (k := 1) (n := 6) (Nat.le_of_ble_eq_true rfl) (Nat.le_of_ble_eq_true rfl) ?_
    exact tb_gret h (fun _ _ _ => rfl) (fun _ => Nat.le_refl _) hx hb hr hS hW hlk dX11_line_33
  · replace h := oc_s ea2 h
    subst ea2
    have la2 := ho1 _ rfl
    refine lv_aload_n hx hb dX11_line_15 rfl (lv_at hl 1 rfl) ?_
    refine gtX11_10 hx hb hts hown hK hW cz11 dX11_line_16 ?_
    refine lv_aload hx hb dX11_line_19 (lv_at hl 0 rfl) ?_
    refine lv_iload_n hx hb dX11_line_21 rfl (lv_at hl 3 rfl) ?_
    replace h := bd_a h
    obtain ⟨b3, hcb3, h⟩ := h
    refine tb_cVZ hZk hx hb hml hown hts hK hZ hW hS [.ref (ad 8 a2), .int x2] (mX5_mayStand (l := l) hZk (some a2) x2 M0 (fun z hz => Option.some.inj hz ▸ la2) b3 hcb3) pmX5_mayStand tw506 (Wd.recv hK hW (t := 5) (by decide) cz5 (C := RX5) (T := TX5) (N := 7) rfl) ⟨Nat.le_of_ble_eq_true rfl, Nat.le_of_ble_eq_true rfl⟩ rfl hl.1 (Nat.le_of_ble_eq_true rfl) ⟨Nat.le_of_ble_eq_true rfl, Nat.le_of_ble_eq_true rfl⟩ rfl dX11_line_22 (fun H locs hW hS hzz => ?_)
    have hzb3 := hzz
    refine lv_if_eq (tgt := 32) hx hb dX11_line_25 (by decide) (fun c4 => ?_) (fun c4 => ?_)
    · replace h := sh_t c4 h
      refine lv_iconst (v := (-1 : Int32)) hx hb dX11_line_32 (by decide) ?_
      refine W.widen (k := 1) (n := 6) (Nat.le_of_ble_eq_true rfl) (Nat.le_of_ble_eq_true rfl) ?_
      exact tb_gret h (fun _ _ _ => rfl) (fun _ => Nat.le_refl _) hx hb hr hS hW hlk dX11_line_33
    · replace h := sh_f c4 h
      refine lv_iload_n hx hb dX11_line_28 rfl (lv_at hl 4 rfl) ?_
      refine lv_if_ge (tgt := 34) hx hb dX11_line_29 (by decide) (fun c5 => ?_) (fun c5 => ?_)
      · replace h := sh_t c5 h
        refine lv_iload_n hx hb dX11_line_34 rfl (lv_at hl 4 rfl) ?_
        refine lv_bipush (v := (100 : Int32)) hx hb dX11_line_35 (by decide) ?_
        refine lv_idiv hx hb dX11_line_37 (by decide) ?_
        refine lv_topi (fun v6 ev6 => ?_)
        replace h := nm_a ev6 h
        refine lv_istore (lv' := [(5, .int v6), (4, .ref (ad 8 a2)), (0, .ref (ad 11 0)), (1, .int x1), (2, .int x2), (3, .int x3)]) hx hb dX11_line_38 hl (by decide) rfl (fun ls hl => ?_)
        refine lv_iload_n hx hb dX11_line_40 rfl (lv_at hl 5 rfl) ?_
        refine lv_bipush (v := (100 : Int32)) hx hb dX11_line_41 (by decide) ?_
        refine lv_irem hx hb dX11_line_43 (by decide) ?_
        refine lv_topi (fun v7 ev7 => ?_)
        replace h := nm_a ev7 h
        refine lv_istore (lv' := [(6, .int v7), (5, .int v6), (4, .ref (ad 8 a2)), (0, .ref (ad 11 0)), (1, .int x1), (2, .int x2), (3, .int x3)]) hx hb dX11_line_44 hl (by decide) rfl (fun ls hl => ?_)
        refine lv_iload hx hb dX11_line_46 (lv_at hl 1 rfl) ?_
        refine tb_cSZ hZk hx hb hml hown hts hK hZ hW hS [.int v6] (mX11_isSense (l := l) hZk v6 M0 (fX11_isSense v6) rfl) pmX11_isSense tw513 ⟨Nat.le_of_ble_eq_true rfl, Nat.le_of_ble_eq_true rfl⟩ rfl hl.1 (Nat.le_of_ble_eq_true rfl) ⟨Nat.le_of_ble_eq_true rfl, Nat.le_of_ble_eq_true rfl⟩ rfl dX11_line_48 (fun H locs hW hS hzz => ?_)
        refine lv_topi (fun b8 eb8 => ?_)
        replace h := nm_a eb8 h
        have hzb8 : b8 = 0 ∨ b8 = 1 := by rw [eb8]; exact hzz
        refine lv_if_eq (tgt := 62) hx hb dX11_line_51 (by decide) (fun c9 => ?_) (fun c9 => ?_)
        · replace h := sh_t c9 h
          refine lv_iconst (v := (-1 : Int32)) hx hb dX11_line_62 (by decide) ?_
          refine W.widen (k := 1) (n := 6) (Nat.le_of_ble_eq_true rfl) (Nat.le_of_ble_eq_true rfl) ?_
          exact tb_gret h (fun _ _ _ => rfl) (fun _ => Nat.le_refl _) hx hb hr hS hW hlk dX11_line_63
        · replace h := sh_f c9 h
          refine lv_iload hx hb dX11_line_54 (lv_at hl 0 rfl) ?_
          refine tb_cSZ hZk hx hb hml hown hts hK hZ hW hS [.int v7] (mX11_isWeight (l := l) hZk v7 M0 (fX11_isWeight v7) rfl) pmX11_isWeight tw516 ⟨Nat.le_of_ble_eq_true rfl, Nat.le_of_ble_eq_true rfl⟩ rfl hl.1 (Nat.le_of_ble_eq_true rfl) ⟨Nat.le_of_ble_eq_true rfl, Nat.le_of_ble_eq_true rfl⟩ rfl dX11_line_56 (fun H locs hW hS hzz => ?_)
          refine lv_topi (fun b10 eb10 => ?_)
          replace h := nm_a eb10 h
          have hzb10 : b10 = 0 ∨ b10 = 1 := by rw [eb10]; exact hzz
          refine lv_if_ne (tgt := 64) hx hb dX11_line_59 (by decide) (fun c11 => ?_) (fun c11 => ?_)
          · replace h := sh_f c11 h
            refine lv_aload_n hx hb dX11_line_64 rfl (lv_at hl 3 rfl) ?_
            refine gtX11_10 hx hb hts hown hK hW cz11 dX11_line_65 ?_
            refine gtX11_96 hx hb hts hown hK hW cz5 dX11_line_68 ?_
            refine lv_sipush (v := (200 : Int32)) hx hb dX11_line_71 (by decide) ?_
            refine lv_icmp_lt (tgt := 80) hx hb dX11_line_74 (by decide) (fun c12 => ?_) (fun c12 => ?_)
            · replace h := sh_t c12 h
              refine lv_aload_n hx hb dX11_line_80 rfl (lv_at hl 3 rfl) ?_
              refine gtX11_10 hx hb hts hown hK hW cz11 dX11_line_81 ?_
              refine lv_aload hx hb dX11_line_84 (lv_at hl 2 rfl) ?_
              refine lv_iload_n hx hb dX11_line_86 rfl (lv_at hl 5 rfl) ?_
              refine lv_iload hx hb dX11_line_87 (lv_at hl 0 rfl) ?_
              refine lv_iload hx hb dX11_line_89 (lv_at hl 1 rfl) ?_
              replace h := bE_a h
              obtain ⟨b13, M14, hcb13, h⟩ := h
              refine tb_cVA hZk hx hb hml hown hts hK hZ hW hS hAn [.ref (ad 8 a2), .int x2, .int v7, .int v6] (mX5_addLine (l := l) hZk (some a2) x2 v7 v6 M0 (fun z hz => Option.some.inj hz ▸ la2) b13.1 M14 b13.2.1 b13.2.2 hcb13) pmX5_addLine tw519 (Wd.recv hK hW (t := 5) (by decide) cz5 (C := RX5) (T := TX5) (N := 7) rfl) ⟨Nat.le_of_ble_eq_true rfl, Nat.le_of_ble_eq_true rfl⟩ rfl hl.1 (Nat.le_of_ble_eq_true rfl) ⟨Nat.le_of_ble_eq_true rfl, Nat.le_of_ble_eq_true rfl⟩ rfl dX11_line_91 (fun ad15 H locs hW had15 hmo15 hS => ?_)
              have ek15_4 := had15 8 a2 la2
              rw [← ek15_4] at hl
              have ek15_0 := had15 11 0 cz11
              rw [← ek15_0] at hl
              refine W.widen (k := 1) (n := 6) (Nat.le_of_ble_eq_true rfl) (Nat.le_of_ble_eq_true rfl) ?_
              exact tb_gret h had15 hmo15 hx hb hr hS hW hlk dX11_line_94
            · replace h := sh_f c12 h
              refine lv_bipush (v := (-3 : Int32)) hx hb dX11_line_77 (by decide) ?_
              refine W.widen (k := 1) (n := 6) (Nat.le_of_ble_eq_true rfl) (Nat.le_of_ble_eq_true rfl) ?_
              exact tb_gret h (fun _ _ _ => rfl) (fun _ => Nat.le_refl _) hx hb hr hS hW hlk dX11_line_79
          · replace h := sh_t c11 h
            refine lv_iconst (v := (-1 : Int32)) hx hb dX11_line_62 (by decide) ?_
            refine W.widen (k := 1) (n := 6) (Nat.le_of_ble_eq_true rfl) (Nat.le_of_ble_eq_true rfl) ?_
            exact tb_gret h (fun _ _ _ => rfl) (fun _ => Nat.le_refl _) hx hb hr hS hW hlk dX11_line_63
      · replace h := sh_f c5 h
        refine lv_iconst (v := (-1 : Int32)) hx hb dX11_line_32 (by decide) ?_
        refine W.widen (k := 1) (n := 6) (Nat.le_of_ble_eq_true rfl) (Nat.le_of_ble_eq_true rfl) ?_
        exact tb_gret h (fun _ _ _ => rfl) (fun _ => Nat.le_refl _) hx hb hr hS hW hlk dX11_line_33
def fX11_citings_b93 (x4 : Int32) (x3 : Int32) (x2 : Int32) (a2 : Nat) (k12 : Int32 → Mem → Nat → Nat → Option ((Int32 × Nat × Nat) × Mem)) (i13 : Int32) (M14 : Mem) (nS15 : Nat) (nL16 : Nat) : Option ((Int32 × Nat × Nat) × Mem) :=
  if x4 ≤ i13 then (some ((x4, nS15, nL16), M14)) else (nm (x3 + ((3 : Int32) * i13)) fun v19 => bd (fX11_byteOr x2 v19 (-1 : Int32) M14) fun b20 => bd (fX11_byteOr x2 (v19 + (1 : Int32)) (-1 : Int32) M14) fun b21 => bd (fX11_byteOr x2 (v19 + (2 : Int32)) (-1 : Int32) M14) fun b22 => bd (fX5_mayStand (some a2) b20 M14) fun b23 => if b23 = 0 then (some ((i13, nS15, nL16), M14)) else (if (mgI M14 503 0 0) < (200 : Int32) then (nm (fX11_isWeight b21) fun b26 => if b26 = 0 then (bE (fX5_addLine nS15 nL16 (some a2) b20 (1 : Int32) (2 : Int32) M14) fun b28 M29 => some ((i13 + (1 : Int32), b28.2.1, b28.2.2), M29)) else (nm (fX11_isSense b22) fun b31 => if b31 = 0 then (bE (fX5_addLine nS15 nL16 (some a2) b20 (1 : Int32) (2 : Int32) M14) fun b37 M38 => some ((i13 + (1 : Int32), b37.2.1, b37.2.2), M38)) else (bE (fX5_addLine nS15 nL16 (some a2) b20 b21 b22 M14) fun b33 M34 => nm (i13 + (1 : Int32)) fun v36 => k12 v36 M34 b33.2.1 b33.2.2))) else (some ((i13, nS15, nL16), M14))))
def fX11_citings_l93 (x4 : Int32) (x3 : Int32) (x2 : Int32) (a2 : Nat) : Nat → Int32 → Mem → Nat → Nat → Option ((Int32 × Nat × Nat) × Mem)
  | 0, _, _, _, _ => none
  | n + 1, i13, M14, nS15, nL16 => fX11_citings_b93 x4 x3 x2 a2 (fX11_citings_l93 x4 x3 x2 a2 n) i13 M14 nS15 nL16
def fX11_citings_b93_44 (x4 : Int32) (x3 : Int32) (x2 : Int32) (a2 : Nat) (k44 : Int32 → Mem → Nat → Nat → Option ((Int32 × Nat × Nat) × Mem)) (i45 : Int32) (M46 : Mem) (nS47 : Nat) (nL48 : Nat) : Option ((Int32 × Nat × Nat) × Mem) :=
  if x4 ≤ i45 then (some ((x4, nS47, nL48), M46)) else (nm (x3 + ((3 : Int32) * i45)) fun v51 => bd (fX11_byteOr x2 v51 (-1 : Int32) M46) fun b52 => bd (fX11_byteOr x2 (v51 + (1 : Int32)) (-1 : Int32) M46) fun b53 => bd (fX11_byteOr x2 (v51 + (2 : Int32)) (-1 : Int32) M46) fun b54 => bd (fX5_mayStand (some a2) b52 M46) fun b55 => if b55 = 0 then (some ((i45, nS47, nL48), M46)) else (if (mgI M46 503 0 0) < (200 : Int32) then (nm (fX11_isWeight b53) fun b58 => if b58 = 0 then (bE (fX5_addLine nS47 nL48 (some a2) b52 (1 : Int32) (2 : Int32) M46) fun b60 M61 => some ((i45 + (1 : Int32), b60.2.1, b60.2.2), M61)) else (nm (fX11_isSense b54) fun b63 => if b63 = 0 then (bE (fX5_addLine nS47 nL48 (some a2) b52 (1 : Int32) (2 : Int32) M46) fun b69 M70 => some ((i45 + (1 : Int32), b69.2.1, b69.2.2), M70)) else (bE (fX5_addLine nS47 nL48 (some a2) b52 b53 b54 M46) fun b65 M66 => nm (i45 + (1 : Int32)) fun v68 => k44 v68 M66 b65.2.1 b65.2.2))) else (some ((i45, nS47, nL48), M46))))
def fX11_citings_l93_44 (x4 : Int32) (x3 : Int32) (x2 : Int32) (a2 : Nat) : Nat → Int32 → Mem → Nat → Nat → Option ((Int32 × Nat × Nat) × Mem)
  | 0, _, _, _, _ => none
  | n + 1, i45, M46, nS47, nL48 => fX11_citings_b93_44 x4 x3 x2 a2 (fX11_citings_l93_44 x4 x3 x2 a2 n) i45 M46 nS47 nL48
def fX11_citings (nS : Nat) (nL : Nat) (x1 : Int32) (x2 : Int32) (x3 : Int32) (x4 : Int32) (M0 : Mem) : Option ((Int32 × Nat × Nat) × Mem) :=
  bd (fX5_stoneAt x1 M0) fun o1 => oc o1 (some (((-1 : Int32), nS, nL), M0)) fun a2 => if (mgI M0 801 a2 0) = (1 : Int32) then (some (((-1 : Int32), nS, nL), M0)) else (nm (fX6_isPlace x2) fun b4 => if b4 = 0 then (some (((-1 : Int32), nS, nL), M0)) else (if x4 < (1 : Int32) then (some (((-1 : Int32), nS, nL), M0)) else (if x4 ≤ (20 : Int32) then (bd (fX6_isEmpty x2 M0) fun b8 => if b8 = 0 then (bd (fX6_isRowOf x2 (0 : Int32) M0) fun b40 => if b40 = 0 then (some (((-12 : Int32), nS, nL), M0)) else (bd (fX6_hasElement x2 x3 M0) fun b42 => if b42 = 0 then (some (((0 : Int32), nS, nL), M0)) else (fX11_citings_l93_44 x4 x3 x2 a2 FU (0 : Int32) M0 nS nL))) else (bd (fX6_hasElement x2 x3 M0) fun b10 => if b10 = 0 then (some (((0 : Int32), nS, nL), M0)) else (fX11_citings_l93 x4 x3 x2 a2 FU (0 : Int32) M0 nS nL))) else (some (((-1 : Int32), nS, nL), M0)))))
set_option maxHeartbeats 4000000 in
set_option maxRecDepth 100000 in
theorem mX11_citings {l : Launch} {D : va_G} {cy : Nat → ClassId} {A : Nat → Prop} {K : KC} {nS nL : Nat} {ad : Nat → Nat → Nat} (hZk : ZOK A (ZC A K)) (x1 : Int32) (x2 : Int32) (x3 : Int32) (x4 : Int32) (M0 : Mem) (r : Int32) (M' : Mem) (nS' nL' : Nat) (h : fX11_citings nS nL x1 x2 x3 x4 M0 = some ((r, nS', nL'), M')) : Met l yX11_citings (wt yX11_citings cX11_citings 11 (some .int)) (rmk 3 20 120 70) (CPreA D cy A (ZC A K) (cnC nS nL) ad M0 [.ref (ad 11 0), .int x1, .int x2, .int x3, .int x4]) (QG D cy A nS nL ad r M' nS' nL') 20 120 A := by
  refine tb_startA [.ref (ad 11 0), .int x1, .int x2, .int x3, .int x4] [(0, .ref (ad 11 0)), (1, .int x1), (2, .int x2), (3, .int x3), (4, .int x4)] RX11 rfl (by decide +kernel) (Nat.le_of_ble_eq_true rfl) rfl (fun p e s m args below meth c hx hb hr hml hown hts hlk hW hK hZ hAn ls hl => ?_)
  have hS : va_S A s.heap s.heap [] := va_S.rf
  unfold fX11_citings at h
  refine lv_aload_n hx hb dX11_citings_0 rfl (lv_at hl 0 rfl) ?_
  refine gtX11_10 hx hb hts hown hK hW cz11 dX11_citings_1 ?_
  refine lv_iload_n hx hb dX11_citings_4 rfl (lv_at hl 1 rfl) ?_
  replace h := bd_a h
  obtain ⟨o1, hco1, h⟩ := h
  refine tb_cVR hZk hx hb hml hown hts hK hZ hW hS [.int x1] (mX5_stoneAt (l := l) hZk x1 M0 o1 hco1) pmX5_stoneAt tw502 (Wd.recv hK hW (t := 5) (by decide) cz5 (C := RX5) (T := TX5) (N := 7) rfl) ⟨Nat.le_of_ble_eq_true rfl, Nat.le_of_ble_eq_true rfl⟩ rfl hl.1 (Nat.le_of_ble_eq_true rfl) ⟨Nat.le_of_ble_eq_true rfl, Nat.le_of_ble_eq_true rfl⟩ rfl dX11_citings_5 (fun H locs hW hS hrr => ?_)
  have ho1 := hrr
  refine tb_astore (lv' := [(5, rv (ad 8) o1), (0, .ref (ad 11 0)), (1, .int x1), (2, .int x2), (3, .int x3), (4, .int x4)]) hx hb dX11_citings_8 hl (by decide) rfl (fun ls hl => ?_)
  refine tb_aload hx hb dX11_citings_10 (lv_at hl 0 rfl) ?_
  refine tb_ifnull (tgt := 48) hx hb dX11_citings_12 (by decide) (fun e0 => ?_) (fun a2 ea2 => ?_)
  · replace h := oc_n e0 h
    subst e0
    refine lv_iconst (v := (-1 : Int32)) hx hb dX11_citings_48 (by decide) ?_
    refine W.widen (k := 20) (n := 120) (Nat.le_of_ble_eq_true rfl) (Nat.le_of_ble_eq_true rfl) ?_
    exact tb_gret h (fun _ _ _ => rfl) (fun _ => Nat.le_refl _) hx hb hr hS hW hlk dX11_citings_49
  · replace h := oc_s ea2 h
    subst ea2
    have la2 := ho1 _ rfl
    refine lv_aload hx hb dX11_citings_15 (lv_at hl 0 rfl) ?_
    refine gtX11_103 hx hb hts hown hK hW la2 dX11_citings_17 ?_
    refine lv_iconst (v := (1 : Int32)) hx hb dX11_citings_20 (by decide) ?_
    refine lv_icmp_eq (tgt := 48) hx hb dX11_citings_21 (by decide) (fun c3 => ?_) (fun c3 => ?_)
    · replace h := sh_t c3 h
      refine lv_iconst (v := (-1 : Int32)) hx hb dX11_citings_48 (by decide) ?_
      refine W.widen (k := 20) (n := 120) (Nat.le_of_ble_eq_true rfl) (Nat.le_of_ble_eq_true rfl) ?_
      exact tb_gret h (fun _ _ _ => rfl) (fun _ => Nat.le_refl _) hx hb hr hS hW hlk dX11_citings_49
    · replace h := sh_f c3 h
      refine lv_aload_n hx hb dX11_citings_24 rfl (lv_at hl 1 rfl) ?_
      refine gtX11_65 hx hb hts hown hK hW cz11 dX11_citings_25 ?_
      refine lv_iload_n hx hb dX11_citings_28 rfl (lv_at hl 3 rfl) ?_
      refine tb_cVZ hZk hx hb hml hown hts hK hZ hW hS [.int x2] (mX6_isPlace (l := l) hZk x2 M0 (fX6_isPlace x2) rfl) pmX6_isPlace tw580 (Wd.recv hK hW (t := 6) (by decide) cz6 (C := RX6) (T := TX6) (N := 4) rfl) ⟨Nat.le_of_ble_eq_true rfl, Nat.le_of_ble_eq_true rfl⟩ rfl hl.1 (Nat.le_of_ble_eq_true rfl) ⟨Nat.le_of_ble_eq_true rfl, Nat.le_of_ble_eq_true rfl⟩ rfl dX11_citings_29 (fun H locs hW hS hzz => ?_)
      refine lv_topi (fun b4 eb4 => ?_)
      replace h := nm_a eb4 h
      have hzb4 : b4 = 0 ∨ b4 = 1 := by rw [eb4]; exact hzz
      refine lv_if_eq (tgt := 48) hx hb dX11_citings_32 (by decide) (fun c5 => ?_) (fun c5 => ?_)
      · replace h := sh_t c5 h
        refine lv_iconst (v := (-1 : Int32)) hx hb dX11_citings_48 (by decide) ?_
        refine W.widen (k := 20) (n := 120) (Nat.le_of_ble_eq_true rfl) (Nat.le_of_ble_eq_true rfl) ?_
        exact tb_gret h (fun _ _ _ => rfl) (fun _ => Nat.le_refl _) hx hb hr hS hW hlk dX11_citings_49
      · replace h := sh_f c5 h
        refine lv_iload hx hb dX11_citings_35 (lv_at hl 5 rfl) ?_
        refine lv_iconst (v := (1 : Int32)) hx hb dX11_citings_37 (by decide) ?_
        refine lv_icmp_lt (tgt := 48) hx hb dX11_citings_38 (by decide) (fun c6 => ?_) (fun c6 => ?_)
        · replace h := sh_t c6 h
          refine lv_iconst (v := (-1 : Int32)) hx hb dX11_citings_48 (by decide) ?_
          refine W.widen (k := 20) (n := 120) (Nat.le_of_ble_eq_true rfl) (Nat.le_of_ble_eq_true rfl) ?_
          exact tb_gret h (fun _ _ _ => rfl) (fun _ => Nat.le_refl _) hx hb hr hS hW hlk dX11_citings_49
        · replace h := sh_f c6 h
          refine lv_iload hx hb dX11_citings_41 (lv_at hl 5 rfl) ?_
          refine lv_bipush (v := (20 : Int32)) hx hb dX11_citings_43 (by decide) ?_
          refine lv_icmp_le (tgt := 50) hx hb dX11_citings_45 (by decide) (fun c7 => ?_) (fun c7 => ?_)
          · replace h := sh_t c7 h
            refine lv_aload_n hx hb dX11_citings_50 rfl (lv_at hl 1 rfl) ?_
            refine gtX11_65 hx hb hts hown hK hW cz11 dX11_citings_51 ?_
            refine lv_iload_n hx hb dX11_citings_54 rfl (lv_at hl 3 rfl) ?_
            replace h := bd_a h
            obtain ⟨b8, hcb8, h⟩ := h
            refine tb_cVZ hZk hx hb hml hown hts hK hZ hW hS [.int x2] (mX6_isEmpty (l := l) hZk x2 M0 b8 hcb8) pmX6_isEmpty tw584 (Wd.recv hK hW (t := 6) (by decide) cz6 (C := RX6) (T := TX6) (N := 4) rfl) ⟨Nat.le_of_ble_eq_true rfl, Nat.le_of_ble_eq_true rfl⟩ rfl hl.1 (Nat.le_of_ble_eq_true rfl) ⟨Nat.le_of_ble_eq_true rfl, Nat.le_of_ble_eq_true rfl⟩ rfl dX11_citings_55 (fun H locs hW hS hzz => ?_)
            have hzb8 := hzz
            refine lv_if_ne (tgt := 76) hx hb dX11_citings_58 (by decide) (fun c9 => ?_) (fun c9 => ?_)
            · replace h := sh_f c9 h
              refine lv_aload_n hx hb dX11_citings_76 rfl (lv_at hl 1 rfl) ?_
              refine gtX11_65 hx hb hts hown hK hW cz11 dX11_citings_77 ?_
              refine lv_iload_n hx hb dX11_citings_80 rfl (lv_at hl 3 rfl) ?_
              refine lv_iload_n hx hb dX11_citings_81 rfl (lv_at hl 4 rfl) ?_
              replace h := bd_a h
              obtain ⟨b10, hcb10, h⟩ := h
              refine tb_cVZ hZk hx hb hml hown hts hK hZ hW hS [.int x2, .int x3] (mX6_hasElement (l := l) hZk x2 x3 M0 b10 hcb10) pmX6_hasElement tw592 (Wd.recv hK hW (t := 6) (by decide) cz6 (C := RX6) (T := TX6) (N := 4) rfl) ⟨Nat.le_of_ble_eq_true rfl, Nat.le_of_ble_eq_true rfl⟩ rfl hl.1 (Nat.le_of_ble_eq_true rfl) ⟨Nat.le_of_ble_eq_true rfl, Nat.le_of_ble_eq_true rfl⟩ rfl dX11_citings_82 (fun H locs hW hS hzz => ?_)
              have hzb10 := hzz
              refine lv_if_ne (tgt := 90) hx hb dX11_citings_85 (by decide) (fun c11 => ?_) (fun c11 => ?_)
              · replace h := sh_f c11 h
                refine lv_iconst (v := (0 : Int32)) hx hb dX11_citings_90 (by decide) ?_
                refine lv_istore (lv' := [(6, .int (0 : Int32)), (5, .ref (ad 8 a2)), (0, .ref (ad 11 0)), (1, .int x1), (2, .int x2), (3, .int x3), (4, .int x4)]) hx hb dX11_citings_91 hl (by decide) rfl (fun ls hl => ?_)
                have L12 : ∀ (n12 : Nat) (i13 : Int32) (M14 : Mem) (nS15 : Nat) (nL16 : Nat) (ad17 : Nat → Nat → Nat) (c17c : Nat) (H : Heap) (locs : List Loc) (ls : Array Slot), Wd D cy A (cnC nS15 nL16) ad17 M14 H → (∀ t i, i < cnC nS nL t → ad17 t i = ad t i) → (∀ t, cnC nS nL t ≤ cnC nS15 nL16 t) → i13 = nI c17c → c17c ≤ 20 → va_S A s.heap H locs → lv_has ls 11 [(0, .ref (ad17 11 0)), (2, .int x2), (3, .int x3), (4, .int x4), (5, .ref (ad17 8 a2)), (6, .int i13)] → fX11_citings_l93 x4 x3 x2 a2 n12 i13 M14 nS15 nL16 = some ((r, nS', nL'), M') → W p l e (rmk 3 20 120 70) s m args below meth c H locs c17c (6 * c17c) (MQ below (QG D cy A nS nL ad r M' nS' nL') args s 20 120 A) (F0 m 93 ls []) := by
                  intro n12
                  induction n12 with
                  | zero => intro i13 M14 nS15 nL16 _ _ H locs ls hW _ _ _ _ hS hl h; cases h
                  | succ n12 ih12 =>
                    intro i13 M14 nS15 nL16 ad17 c17c H locs ls hW had17 hmo17 hci17 hc20_17 hS hl h
                    unfold fX11_citings_l93 fX11_citings_b93 at h
                    refine lv_iload hx hb dX11_citings_93 (lv_at hl 5 rfl) ?_
                    refine lv_iload hx hb dX11_citings_95 (lv_at hl 3 rfl) ?_
                    refine lv_icmp_ge (tgt := 229) hx hb dX11_citings_97 (by decide) (fun c18 => ?_) (fun c18 => ?_)
                    · replace h := sh_t c18 h
                      refine lv_iload hx hb dX11_citings_229 (lv_at hl 3 rfl) ?_
                      refine W.widen (k := 20) (n := 120) (show c17c ≤ 20 by omega) (show 6 * c17c ≤ 120 by omega) ?_
                      exact tb_gret h had17 hmo17 hx hb hr hS hW hlk dX11_citings_231
                    · replace h := sh_f c18 h
                      refine lv_iload_n hx hb dX11_citings_100 rfl (lv_at hl 2 rfl) ?_
                      refine lv_iconst (v := (3 : Int32)) hx hb dX11_citings_101 (by decide) ?_
                      refine lv_iload hx hb dX11_citings_102 (lv_at hl 5 rfl) ?_
                      refine lv_imul hx hb dX11_citings_104 ?_
                      refine lv_iadd hx hb dX11_citings_105 ?_
                      refine lv_topi (fun v19 ev19 => ?_)
                      replace h := nm_a ev19 h
                      refine lv_istore (lv' := [(7, .int v19), (0, .ref (ad17 11 0)), (2, .int x2), (3, .int x3), (4, .int x4), (5, .ref (ad17 8 a2)), (6, .int i13)]) hx hb dX11_citings_106 hl (by decide) rfl (fun ls hl => ?_)
                      refine lv_aload_n hx hb dX11_citings_108 rfl (lv_at hl 1 rfl) ?_
                      refine lv_iload_n hx hb dX11_citings_109 rfl (lv_at hl 2 rfl) ?_
                      refine lv_iload hx hb dX11_citings_110 (lv_at hl 0 rfl) ?_
                      refine lv_iconst (v := (-1 : Int32)) hx hb dX11_citings_112 (by decide) ?_
                      replace h := bd_a h
                      obtain ⟨b20, hcb20, h⟩ := h
                      refine tb_cVI hZk hx hb hml hown hts hK hZ hW hS [.int x2, .int v19, .int (-1 : Int32)] (mX11_byteOr (l := l) hZk x2 v19 (-1 : Int32) M14 b20 hcb20) pmX11_byteOr tw600 (Wd.recv hK hW (t := 11) (by decide) cz11 (C := RX11) (T := TX11) (N := 8) rfl) ⟨Nat.le_of_ble_eq_true rfl, Nat.le_of_ble_eq_true rfl⟩ rfl hl.1 (Nat.le_of_ble_eq_true rfl) ⟨(show c17c + 0 ≤ 20 by omega), (show 6 * c17c + 0 ≤ 120 by omega)⟩ rfl dX11_citings_113 (fun H locs hW hS => ?_)
                      refine lv_istore (lv' := [(8, .int b20), (7, .int v19), (0, .ref (ad17 11 0)), (2, .int x2), (3, .int x3), (4, .int x4), (5, .ref (ad17 8 a2)), (6, .int i13)]) hx hb dX11_citings_116 hl (by decide) rfl (fun ls hl => ?_)
                      refine lv_aload_n hx hb dX11_citings_118 rfl (lv_at hl 2 rfl) ?_
                      refine lv_iload_n hx hb dX11_citings_119 rfl (lv_at hl 3 rfl) ?_
                      refine lv_iload hx hb dX11_citings_120 (lv_at hl 1 rfl) ?_
                      refine lv_iconst (v := (1 : Int32)) hx hb dX11_citings_122 (by decide) ?_
                      refine lv_iadd hx hb dX11_citings_123 ?_
                      refine lv_iconst (v := (-1 : Int32)) hx hb dX11_citings_124 (by decide) ?_
                      replace h := bd_a h
                      obtain ⟨b21, hcb21, h⟩ := h
                      refine tb_cVI hZk hx hb hml hown hts hK hZ hW hS [.int x2, .int (v19 + (1 : Int32)), .int (-1 : Int32)] (mX11_byteOr (l := l) hZk x2 (v19 + (1 : Int32)) (-1 : Int32) M14 b21 hcb21) pmX11_byteOr tw600 (Wd.recv hK hW (t := 11) (by decide) cz11 (C := RX11) (T := TX11) (N := 8) rfl) ⟨Nat.le_of_ble_eq_true rfl, Nat.le_of_ble_eq_true rfl⟩ rfl hl.1 (Nat.le_of_ble_eq_true rfl) ⟨(show c17c + 0 ≤ 20 by omega), (show 6 * c17c + 0 ≤ 120 by omega)⟩ rfl dX11_citings_125 (fun H locs hW hS => ?_)
                      refine lv_istore (lv' := [(9, .int b21), (8, .int b20), (7, .int v19), (0, .ref (ad17 11 0)), (2, .int x2), (3, .int x3), (4, .int x4), (5, .ref (ad17 8 a2)), (6, .int i13)]) hx hb dX11_citings_128 hl (by decide) rfl (fun ls hl => ?_)
                      refine lv_aload_n hx hb dX11_citings_130 rfl (lv_at hl 3 rfl) ?_
                      refine lv_iload_n hx hb dX11_citings_131 rfl (lv_at hl 4 rfl) ?_
                      refine lv_iload hx hb dX11_citings_132 (lv_at hl 2 rfl) ?_
                      refine lv_iconst (v := (2 : Int32)) hx hb dX11_citings_134 (by decide) ?_
                      refine lv_iadd hx hb dX11_citings_135 ?_
                      refine lv_iconst (v := (-1 : Int32)) hx hb dX11_citings_136 (by decide) ?_
                      replace h := bd_a h
                      obtain ⟨b22, hcb22, h⟩ := h
                      refine tb_cVI hZk hx hb hml hown hts hK hZ hW hS [.int x2, .int (v19 + (2 : Int32)), .int (-1 : Int32)] (mX11_byteOr (l := l) hZk x2 (v19 + (2 : Int32)) (-1 : Int32) M14 b22 hcb22) pmX11_byteOr tw600 (Wd.recv hK hW (t := 11) (by decide) cz11 (C := RX11) (T := TX11) (N := 8) rfl) ⟨Nat.le_of_ble_eq_true rfl, Nat.le_of_ble_eq_true rfl⟩ rfl hl.1 (Nat.le_of_ble_eq_true rfl) ⟨(show c17c + 0 ≤ 20 by omega), (show 6 * c17c + 0 ≤ 120 by omega)⟩ rfl dX11_citings_137 (fun H locs hW hS => ?_)
                      refine lv_istore (lv' := [(10, .int b22), (9, .int b21), (8, .int b20), (7, .int v19), (0, .ref (ad17 11 0)), (2, .int x2), (3, .int x3), (4, .int x4), (5, .ref (ad17 8 a2)), (6, .int i13)]) hx hb dX11_citings_140 hl (by decide) rfl (fun ls hl => ?_)
                      refine lv_aload_n hx hb dX11_citings_142 rfl (lv_at hl 4 rfl) ?_
                      refine gtX11_10 hx hb hts hown hK hW cz11 dX11_citings_143 ?_
                      refine lv_aload hx hb dX11_citings_146 (lv_at hl 8 rfl) ?_
                      refine lv_iload hx hb dX11_citings_148 (lv_at hl 2 rfl) ?_
                      replace h := bd_a h
                      obtain ⟨b23, hcb23, h⟩ := h
                      refine tb_cVZ hZk hx hb hml hown hts hK hZ hW hS [.ref (ad17 8 a2), .int b20] (mX5_mayStand (l := l) hZk (some a2) b20 M14 (fun z hz => Option.some.inj hz ▸ (Nat.lt_of_lt_of_le la2 (hmo17 _))) b23 hcb23) pmX5_mayStand tw506 (Wd.recv hK hW (t := 5) (by decide) cz5 (C := RX5) (T := TX5) (N := 7) rfl) ⟨Nat.le_of_ble_eq_true rfl, Nat.le_of_ble_eq_true rfl⟩ rfl hl.1 (Nat.le_of_ble_eq_true rfl) ⟨(show c17c + 0 ≤ 20 by omega), (show 6 * c17c + 0 ≤ 120 by omega)⟩ rfl dX11_citings_150 (fun H locs hW hS hzz => ?_)
                      have hzb23 := hzz
                      refine lv_if_eq (tgt := 169) hx hb dX11_citings_153 (by decide) (fun c24 => ?_) (fun c24 => ?_)
                      · replace h := sh_t c24 h
                        refine lv_iload hx hb dX11_citings_169 (lv_at hl 9 rfl) ?_
                        refine W.widen (k := 20) (n := 120) (show c17c ≤ 20 by omega) (show 6 * c17c ≤ 120 by omega) ?_
                        exact tb_gret h had17 hmo17 hx hb hr hS hW hlk dX11_citings_171
                      · replace h := sh_f c24 h
                        refine lv_aload_n hx hb dX11_citings_156 rfl (lv_at hl 4 rfl) ?_
                        refine gtX11_10 hx hb hts hown hK hW cz11 dX11_citings_157 ?_
                        refine gtX11_96 hx hb hts hown hK hW cz5 dX11_citings_160 ?_
                        refine lv_sipush (v := (200 : Int32)) hx hb dX11_citings_163 (by decide) ?_
                        refine lv_icmp_lt (tgt := 172) hx hb dX11_citings_166 (by decide) (fun c25 => ?_) (fun c25 => ?_)
                        · replace h := sh_t c25 h
                          refine lv_iload hx hb dX11_citings_172 (lv_at hl 1 rfl) ?_
                          refine tb_cSZ hZk hx hb hml hown hts hK hZ hW hS [.int b21] (mX11_isWeight (l := l) hZk b21 M14 (fX11_isWeight b21) rfl) pmX11_isWeight tw516 ⟨Nat.le_of_ble_eq_true rfl, Nat.le_of_ble_eq_true rfl⟩ rfl hl.1 (Nat.le_of_ble_eq_true rfl) ⟨(show c17c + 0 ≤ 20 by omega), (show 6 * c17c + 0 ≤ 120 by omega)⟩ rfl dX11_citings_174 (fun H locs hW hS hzz => ?_)
                          refine lv_topi (fun b26 eb26 => ?_)
                          replace h := nm_a eb26 h
                          have hzb26 : b26 = 0 ∨ b26 = 1 := by rw [eb26]; exact hzz
                          refine lv_if_eq (tgt := 188) hx hb dX11_citings_177 (by decide) (fun c27 => ?_) (fun c27 => ?_)
                          · replace h := sh_t c27 h
                            refine lv_aload_n hx hb dX11_citings_188 rfl (lv_at hl 4 rfl) ?_
                            refine gtX11_10 hx hb hts hown hK hW cz11 dX11_citings_189 ?_
                            refine lv_aload hx hb dX11_citings_192 (lv_at hl 8 rfl) ?_
                            refine lv_iload hx hb dX11_citings_194 (lv_at hl 2 rfl) ?_
                            refine lv_iconst (v := (1 : Int32)) hx hb dX11_citings_196 (by decide) ?_
                            refine lv_iconst (v := (2 : Int32)) hx hb dX11_citings_197 (by decide) ?_
                            replace h := bE_a h
                            obtain ⟨b28, M29, hcb28, h⟩ := h
                            have hcl : c17c < 20 := cit_lt c7 c18 hci17 hc20_17
                            refine tb_cVA hZk hx hb hml hown hts hK hZ hW hS hAn [.ref (ad17 8 a2), .int b20, .int (1 : Int32), .int (2 : Int32)] (mX5_addLine (l := l) hZk (some a2) b20 (1 : Int32) (2 : Int32) M14 (fun z hz => Option.some.inj hz ▸ (Nat.lt_of_lt_of_le la2 (hmo17 _))) b28.1 M29 b28.2.1 b28.2.2 hcb28) pmX5_addLine tw519 (Wd.recv hK hW (t := 5) (by decide) cz5 (C := RX5) (T := TX5) (N := 7) rfl) ⟨Nat.le_of_ble_eq_true rfl, Nat.le_of_ble_eq_true rfl⟩ rfl hl.1 (Nat.le_of_ble_eq_true rfl) ⟨(show c17c + 1 ≤ 20 by omega), (show 6 * c17c + 6 ≤ 120 by omega)⟩ rfl dX11_citings_198 (fun ad30 H locs hW had30 hmo30 hS => ?_)
                            have had30x := fun t i hi => (had30 t i (Nat.lt_of_lt_of_le hi (hmo17 t))).trans (had17 t i hi)
                            have hmo30x := fun t => Nat.le_trans (hmo17 t) (hmo30 t)
                            have ek30_0 := had30 11 0 cz11
                            rw [← ek30_0] at hl
                            have ek30_5 := had30 8 a2 (Nat.lt_of_lt_of_le la2 (hmo17 _))
                            rw [← ek30_5] at hl
                            refine lv_pop hx hb dX11_citings_201 rfl ?_
                            refine lv_iload hx hb dX11_citings_202 (lv_at hl 9 rfl) ?_
                            refine lv_iconst (v := (1 : Int32)) hx hb dX11_citings_204 (by decide) ?_
                            refine lv_iadd hx hb dX11_citings_205 ?_
                            refine W.widen (k := 20) (n := 120) (show c17c + 1 ≤ 20 by omega) (show 6 * c17c + 6 ≤ 120 by omega) ?_
                            exact tb_gret h had30x hmo30x hx hb hr hS hW hlk dX11_citings_206
                          · replace h := sh_f c27 h
                            refine lv_iload hx hb dX11_citings_180 (lv_at hl 0 rfl) ?_
                            refine tb_cSZ hZk hx hb hml hown hts hK hZ hW hS [.int b22] (mX11_isSense (l := l) hZk b22 M14 (fX11_isSense b22) rfl) pmX11_isSense tw513 ⟨Nat.le_of_ble_eq_true rfl, Nat.le_of_ble_eq_true rfl⟩ rfl hl.1 (Nat.le_of_ble_eq_true rfl) ⟨(show c17c + 0 ≤ 20 by omega), (show 6 * c17c + 0 ≤ 120 by omega)⟩ rfl dX11_citings_182 (fun H locs hW hS hzz => ?_)
                            refine lv_topi (fun b31 eb31 => ?_)
                            replace h := nm_a eb31 h
                            have hzb31 : b31 = 0 ∨ b31 = 1 := by rw [eb31]; exact hzz
                            refine lv_if_ne (tgt := 207) hx hb dX11_citings_185 (by decide) (fun c32 => ?_) (fun c32 => ?_)
                            · replace h := sh_f c32 h
                              refine lv_aload_n hx hb dX11_citings_207 rfl (lv_at hl 4 rfl) ?_
                              refine gtX11_10 hx hb hts hown hK hW cz11 dX11_citings_208 ?_
                              refine lv_aload hx hb dX11_citings_211 (lv_at hl 8 rfl) ?_
                              refine lv_iload hx hb dX11_citings_213 (lv_at hl 2 rfl) ?_
                              refine lv_iload hx hb dX11_citings_215 (lv_at hl 1 rfl) ?_
                              refine lv_iload hx hb dX11_citings_217 (lv_at hl 0 rfl) ?_
                              replace h := bE_a h
                              obtain ⟨b33, M34, hcb33, h⟩ := h
                              have hcl : c17c < 20 := cit_lt c7 c18 hci17 hc20_17
                              refine tb_cVA hZk hx hb hml hown hts hK hZ hW hS hAn [.ref (ad17 8 a2), .int b20, .int b21, .int b22] (mX5_addLine (l := l) hZk (some a2) b20 b21 b22 M14 (fun z hz => Option.some.inj hz ▸ (Nat.lt_of_lt_of_le la2 (hmo17 _))) b33.1 M34 b33.2.1 b33.2.2 hcb33) pmX5_addLine tw519 (Wd.recv hK hW (t := 5) (by decide) cz5 (C := RX5) (T := TX5) (N := 7) rfl) ⟨Nat.le_of_ble_eq_true rfl, Nat.le_of_ble_eq_true rfl⟩ rfl hl.1 (Nat.le_of_ble_eq_true rfl) ⟨(show c17c + 1 ≤ 20 by omega), (show 6 * c17c + 6 ≤ 120 by omega)⟩ rfl dX11_citings_219 (fun ad35 H locs hW had35 hmo35 hS => ?_)
                              have had35x := fun t i hi => (had35 t i (Nat.lt_of_lt_of_le hi (hmo17 t))).trans (had17 t i hi)
                              have hmo35x := fun t => Nat.le_trans (hmo17 t) (hmo35 t)
                              have ek35_0 := had35 11 0 cz11
                              rw [← ek35_0] at hl
                              have ek35_5 := had35 8 a2 (Nat.lt_of_lt_of_le la2 (hmo17 _))
                              rw [← ek35_5] at hl
                              refine lv_pop hx hb dX11_citings_222 rfl ?_
                              obtain ⟨v36, ev36⟩ : ∃ y : Int32, y = i13 + (1 : Int32) := ⟨_, rfl⟩
                              replace h := nm_a ev36 h
                              refine lv_iinc (v := v36) (lv' := [(6, .int v36), (10, .int b22), (9, .int b21), (8, .int b20), (7, .int v19), (0, .ref (ad35 11 0)), (2, .int x2), (3, .int x3), (4, .int x4), (5, .ref (ad35 8 a2))]) hx hb dX11_citings_223 hl (k := 9) rfl (by rw [ev36]; rfl) (by decide) rfl (fun ls hl => ?_)
                              refine lv_goto (tgt := 93) hx hb dX11_citings_226 (by decide) ?_
                              exact ih12 v36 M34 b33.2.1 b33.2.2 ad35 (c17c + 1) _ _ _ hW had35x hmo35x (by rw [ev36, hci17]; exact nI_1 _) hcl hS (lv_sub hl [5, 6, 7, 8, 9, 0] rfl) h
                            · replace h := sh_t c32 h
                              refine lv_aload_n hx hb dX11_citings_188 rfl (lv_at hl 4 rfl) ?_
                              refine gtX11_10 hx hb hts hown hK hW cz11 dX11_citings_189 ?_
                              refine lv_aload hx hb dX11_citings_192 (lv_at hl 8 rfl) ?_
                              refine lv_iload hx hb dX11_citings_194 (lv_at hl 2 rfl) ?_
                              refine lv_iconst (v := (1 : Int32)) hx hb dX11_citings_196 (by decide) ?_
                              refine lv_iconst (v := (2 : Int32)) hx hb dX11_citings_197 (by decide) ?_
                              replace h := bE_a h
                              obtain ⟨b37, M38, hcb37, h⟩ := h
                              have hcl : c17c < 20 := cit_lt c7 c18 hci17 hc20_17
                              refine tb_cVA hZk hx hb hml hown hts hK hZ hW hS hAn [.ref (ad17 8 a2), .int b20, .int (1 : Int32), .int (2 : Int32)] (mX5_addLine (l := l) hZk (some a2) b20 (1 : Int32) (2 : Int32) M14 (fun z hz => Option.some.inj hz ▸ (Nat.lt_of_lt_of_le la2 (hmo17 _))) b37.1 M38 b37.2.1 b37.2.2 hcb37) pmX5_addLine tw519 (Wd.recv hK hW (t := 5) (by decide) cz5 (C := RX5) (T := TX5) (N := 7) rfl) ⟨Nat.le_of_ble_eq_true rfl, Nat.le_of_ble_eq_true rfl⟩ rfl hl.1 (Nat.le_of_ble_eq_true rfl) ⟨(show c17c + 1 ≤ 20 by omega), (show 6 * c17c + 6 ≤ 120 by omega)⟩ rfl dX11_citings_198 (fun ad39 H locs hW had39 hmo39 hS => ?_)
                              have had39x := fun t i hi => (had39 t i (Nat.lt_of_lt_of_le hi (hmo17 t))).trans (had17 t i hi)
                              have hmo39x := fun t => Nat.le_trans (hmo17 t) (hmo39 t)
                              have ek39_0 := had39 11 0 cz11
                              rw [← ek39_0] at hl
                              have ek39_5 := had39 8 a2 (Nat.lt_of_lt_of_le la2 (hmo17 _))
                              rw [← ek39_5] at hl
                              refine lv_pop hx hb dX11_citings_201 rfl ?_
                              refine lv_iload hx hb dX11_citings_202 (lv_at hl 9 rfl) ?_
                              refine lv_iconst (v := (1 : Int32)) hx hb dX11_citings_204 (by decide) ?_
                              refine lv_iadd hx hb dX11_citings_205 ?_
                              refine W.widen (k := 20) (n := 120) (show c17c + 1 ≤ 20 by omega) (show 6 * c17c + 6 ≤ 120 by omega) ?_
                              exact tb_gret h had39x hmo39x hx hb hr hS hW hlk dX11_citings_206
                        · replace h := sh_f c25 h
                          refine lv_iload hx hb dX11_citings_169 (lv_at hl 9 rfl) ?_
                          refine W.widen (k := 20) (n := 120) (show c17c ≤ 20 by omega) (show 6 * c17c ≤ 120 by omega) ?_
                          exact tb_gret h had17 hmo17 hx hb hr hS hW hlk dX11_citings_171
                exact L12 FU (0 : Int32) M0 nS nL ad 0 _ _ _ hW (fun _ _ _ => rfl) (fun _ => Nat.le_refl _) nI_0.symm (Nat.zero_le _) hS (lv_sub hl [2, 4, 5, 6, 1, 0] rfl) h
              · replace h := sh_t c11 h
                refine lv_iconst (v := (0 : Int32)) hx hb dX11_citings_88 (by decide) ?_
                refine W.widen (k := 20) (n := 120) (Nat.le_of_ble_eq_true rfl) (Nat.le_of_ble_eq_true rfl) ?_
                exact tb_gret h (fun _ _ _ => rfl) (fun _ => Nat.le_refl _) hx hb hr hS hW hlk dX11_citings_89
            · replace h := sh_t c9 h
              refine lv_aload_n hx hb dX11_citings_61 rfl (lv_at hl 1 rfl) ?_
              refine gtX11_65 hx hb hts hown hK hW cz11 dX11_citings_62 ?_
              refine lv_iload_n hx hb dX11_citings_65 rfl (lv_at hl 3 rfl) ?_
              refine lv_iconst (v := (0 : Int32)) hx hb dX11_citings_66 (by decide) ?_
              replace h := bd_a h
              obtain ⟨b40, hcb40, h⟩ := h
              refine tb_cVZ hZk hx hb hml hown hts hK hZ hW hS [.int x2, .int (0 : Int32)] (mX6_isRowOf (l := l) hZk x2 (0 : Int32) M0 b40 hcb40) pmX6_isRowOf tw588 (Wd.recv hK hW (t := 6) (by decide) cz6 (C := RX6) (T := TX6) (N := 4) rfl) ⟨Nat.le_of_ble_eq_true rfl, Nat.le_of_ble_eq_true rfl⟩ rfl hl.1 (Nat.le_of_ble_eq_true rfl) ⟨Nat.le_of_ble_eq_true rfl, Nat.le_of_ble_eq_true rfl⟩ rfl dX11_citings_67 (fun H locs hW hS hzz => ?_)
              have hzb40 := hzz
              refine lv_if_ne (tgt := 76) hx hb dX11_citings_70 (by decide) (fun c41 => ?_) (fun c41 => ?_)
              · replace h := sh_f c41 h
                refine lv_aload_n hx hb dX11_citings_76 rfl (lv_at hl 1 rfl) ?_
                refine gtX11_65 hx hb hts hown hK hW cz11 dX11_citings_77 ?_
                refine lv_iload_n hx hb dX11_citings_80 rfl (lv_at hl 3 rfl) ?_
                refine lv_iload_n hx hb dX11_citings_81 rfl (lv_at hl 4 rfl) ?_
                replace h := bd_a h
                obtain ⟨b42, hcb42, h⟩ := h
                refine tb_cVZ hZk hx hb hml hown hts hK hZ hW hS [.int x2, .int x3] (mX6_hasElement (l := l) hZk x2 x3 M0 b42 hcb42) pmX6_hasElement tw592 (Wd.recv hK hW (t := 6) (by decide) cz6 (C := RX6) (T := TX6) (N := 4) rfl) ⟨Nat.le_of_ble_eq_true rfl, Nat.le_of_ble_eq_true rfl⟩ rfl hl.1 (Nat.le_of_ble_eq_true rfl) ⟨Nat.le_of_ble_eq_true rfl, Nat.le_of_ble_eq_true rfl⟩ rfl dX11_citings_82 (fun H locs hW hS hzz => ?_)
                have hzb42 := hzz
                refine lv_if_ne (tgt := 90) hx hb dX11_citings_85 (by decide) (fun c43 => ?_) (fun c43 => ?_)
                · replace h := sh_f c43 h
                  refine lv_iconst (v := (0 : Int32)) hx hb dX11_citings_90 (by decide) ?_
                  refine lv_istore (lv' := [(6, .int (0 : Int32)), (5, .ref (ad 8 a2)), (0, .ref (ad 11 0)), (1, .int x1), (2, .int x2), (3, .int x3), (4, .int x4)]) hx hb dX11_citings_91 hl (by decide) rfl (fun ls hl => ?_)
                  have L44 : ∀ (n44 : Nat) (i45 : Int32) (M46 : Mem) (nS47 : Nat) (nL48 : Nat) (ad49 : Nat → Nat → Nat) (c49c : Nat) (H : Heap) (locs : List Loc) (ls : Array Slot), Wd D cy A (cnC nS47 nL48) ad49 M46 H → (∀ t i, i < cnC nS nL t → ad49 t i = ad t i) → (∀ t, cnC nS nL t ≤ cnC nS47 nL48 t) → i45 = nI c49c → c49c ≤ 20 → va_S A s.heap H locs → lv_has ls 11 [(0, .ref (ad49 11 0)), (2, .int x2), (3, .int x3), (4, .int x4), (5, .ref (ad49 8 a2)), (6, .int i45)] → fX11_citings_l93_44 x4 x3 x2 a2 n44 i45 M46 nS47 nL48 = some ((r, nS', nL'), M') → W p l e (rmk 3 20 120 70) s m args below meth c H locs c49c (6 * c49c) (MQ below (QG D cy A nS nL ad r M' nS' nL') args s 20 120 A) (F0 m 93 ls []) := by
                    intro n44
                    induction n44 with
                    | zero => intro i45 M46 nS47 nL48 _ _ H locs ls hW _ _ _ _ hS hl h; cases h
                    | succ n44 ih44 =>
                      intro i45 M46 nS47 nL48 ad49 c49c H locs ls hW had49 hmo49 hci49 hc20_49 hS hl h
                      unfold fX11_citings_l93_44 fX11_citings_b93_44 at h
                      refine lv_iload hx hb dX11_citings_93 (lv_at hl 5 rfl) ?_
                      refine lv_iload hx hb dX11_citings_95 (lv_at hl 3 rfl) ?_
                      refine lv_icmp_ge (tgt := 229) hx hb dX11_citings_97 (by decide) (fun c50 => ?_) (fun c50 => ?_)
                      · replace h := sh_t c50 h
                        refine lv_iload hx hb dX11_citings_229 (lv_at hl 3 rfl) ?_
                        refine W.widen (k := 20) (n := 120) (show c49c ≤ 20 by omega) (show 6 * c49c ≤ 120 by omega) ?_
                        exact tb_gret h had49 hmo49 hx hb hr hS hW hlk dX11_citings_231
                      · replace h := sh_f c50 h
                        refine lv_iload_n hx hb dX11_citings_100 rfl (lv_at hl 2 rfl) ?_
                        refine lv_iconst (v := (3 : Int32)) hx hb dX11_citings_101 (by decide) ?_
                        refine lv_iload hx hb dX11_citings_102 (lv_at hl 5 rfl) ?_
                        refine lv_imul hx hb dX11_citings_104 ?_
                        refine lv_iadd hx hb dX11_citings_105 ?_
                        refine lv_topi (fun v51 ev51 => ?_)
                        replace h := nm_a ev51 h
                        refine lv_istore (lv' := [(7, .int v51), (0, .ref (ad49 11 0)), (2, .int x2), (3, .int x3), (4, .int x4), (5, .ref (ad49 8 a2)), (6, .int i45)]) hx hb dX11_citings_106 hl (by decide) rfl (fun ls hl => ?_)
                        refine lv_aload_n hx hb dX11_citings_108 rfl (lv_at hl 1 rfl) ?_
                        refine lv_iload_n hx hb dX11_citings_109 rfl (lv_at hl 2 rfl) ?_
                        refine lv_iload hx hb dX11_citings_110 (lv_at hl 0 rfl) ?_
                        refine lv_iconst (v := (-1 : Int32)) hx hb dX11_citings_112 (by decide) ?_
                        replace h := bd_a h
                        obtain ⟨b52, hcb52, h⟩ := h
                        refine tb_cVI hZk hx hb hml hown hts hK hZ hW hS [.int x2, .int v51, .int (-1 : Int32)] (mX11_byteOr (l := l) hZk x2 v51 (-1 : Int32) M46 b52 hcb52) pmX11_byteOr tw600 (Wd.recv hK hW (t := 11) (by decide) cz11 (C := RX11) (T := TX11) (N := 8) rfl) ⟨Nat.le_of_ble_eq_true rfl, Nat.le_of_ble_eq_true rfl⟩ rfl hl.1 (Nat.le_of_ble_eq_true rfl) ⟨(show c49c + 0 ≤ 20 by omega), (show 6 * c49c + 0 ≤ 120 by omega)⟩ rfl dX11_citings_113 (fun H locs hW hS => ?_)
                        refine lv_istore (lv' := [(8, .int b52), (7, .int v51), (0, .ref (ad49 11 0)), (2, .int x2), (3, .int x3), (4, .int x4), (5, .ref (ad49 8 a2)), (6, .int i45)]) hx hb dX11_citings_116 hl (by decide) rfl (fun ls hl => ?_)
                        refine lv_aload_n hx hb dX11_citings_118 rfl (lv_at hl 2 rfl) ?_
                        refine lv_iload_n hx hb dX11_citings_119 rfl (lv_at hl 3 rfl) ?_
                        refine lv_iload hx hb dX11_citings_120 (lv_at hl 1 rfl) ?_
                        refine lv_iconst (v := (1 : Int32)) hx hb dX11_citings_122 (by decide) ?_
                        refine lv_iadd hx hb dX11_citings_123 ?_
                        refine lv_iconst (v := (-1 : Int32)) hx hb dX11_citings_124 (by decide) ?_
                        replace h := bd_a h
                        obtain ⟨b53, hcb53, h⟩ := h
                        refine tb_cVI hZk hx hb hml hown hts hK hZ hW hS [.int x2, .int (v51 + (1 : Int32)), .int (-1 : Int32)] (mX11_byteOr (l := l) hZk x2 (v51 + (1 : Int32)) (-1 : Int32) M46 b53 hcb53) pmX11_byteOr tw600 (Wd.recv hK hW (t := 11) (by decide) cz11 (C := RX11) (T := TX11) (N := 8) rfl) ⟨Nat.le_of_ble_eq_true rfl, Nat.le_of_ble_eq_true rfl⟩ rfl hl.1 (Nat.le_of_ble_eq_true rfl) ⟨(show c49c + 0 ≤ 20 by omega), (show 6 * c49c + 0 ≤ 120 by omega)⟩ rfl dX11_citings_125 (fun H locs hW hS => ?_)
                        refine lv_istore (lv' := [(9, .int b53), (8, .int b52), (7, .int v51), (0, .ref (ad49 11 0)), (2, .int x2), (3, .int x3), (4, .int x4), (5, .ref (ad49 8 a2)), (6, .int i45)]) hx hb dX11_citings_128 hl (by decide) rfl (fun ls hl => ?_)
                        refine lv_aload_n hx hb dX11_citings_130 rfl (lv_at hl 3 rfl) ?_
                        refine lv_iload_n hx hb dX11_citings_131 rfl (lv_at hl 4 rfl) ?_
                        refine lv_iload hx hb dX11_citings_132 (lv_at hl 2 rfl) ?_
                        refine lv_iconst (v := (2 : Int32)) hx hb dX11_citings_134 (by decide) ?_
                        refine lv_iadd hx hb dX11_citings_135 ?_
                        refine lv_iconst (v := (-1 : Int32)) hx hb dX11_citings_136 (by decide) ?_
                        replace h := bd_a h
                        obtain ⟨b54, hcb54, h⟩ := h
                        refine tb_cVI hZk hx hb hml hown hts hK hZ hW hS [.int x2, .int (v51 + (2 : Int32)), .int (-1 : Int32)] (mX11_byteOr (l := l) hZk x2 (v51 + (2 : Int32)) (-1 : Int32) M46 b54 hcb54) pmX11_byteOr tw600 (Wd.recv hK hW (t := 11) (by decide) cz11 (C := RX11) (T := TX11) (N := 8) rfl) ⟨Nat.le_of_ble_eq_true rfl, Nat.le_of_ble_eq_true rfl⟩ rfl hl.1 (Nat.le_of_ble_eq_true rfl) ⟨(show c49c + 0 ≤ 20 by omega), (show 6 * c49c + 0 ≤ 120 by omega)⟩ rfl dX11_citings_137 (fun H locs hW hS => ?_)
                        refine lv_istore (lv' := [(10, .int b54), (9, .int b53), (8, .int b52), (7, .int v51), (0, .ref (ad49 11 0)), (2, .int x2), (3, .int x3), (4, .int x4), (5, .ref (ad49 8 a2)), (6, .int i45)]) hx hb dX11_citings_140 hl (by decide) rfl (fun ls hl => ?_)
                        refine lv_aload_n hx hb dX11_citings_142 rfl (lv_at hl 4 rfl) ?_
                        refine gtX11_10 hx hb hts hown hK hW cz11 dX11_citings_143 ?_
                        refine lv_aload hx hb dX11_citings_146 (lv_at hl 8 rfl) ?_
                        refine lv_iload hx hb dX11_citings_148 (lv_at hl 2 rfl) ?_
                        replace h := bd_a h
                        obtain ⟨b55, hcb55, h⟩ := h
                        refine tb_cVZ hZk hx hb hml hown hts hK hZ hW hS [.ref (ad49 8 a2), .int b52] (mX5_mayStand (l := l) hZk (some a2) b52 M46 (fun z hz => Option.some.inj hz ▸ (Nat.lt_of_lt_of_le la2 (hmo49 _))) b55 hcb55) pmX5_mayStand tw506 (Wd.recv hK hW (t := 5) (by decide) cz5 (C := RX5) (T := TX5) (N := 7) rfl) ⟨Nat.le_of_ble_eq_true rfl, Nat.le_of_ble_eq_true rfl⟩ rfl hl.1 (Nat.le_of_ble_eq_true rfl) ⟨(show c49c + 0 ≤ 20 by omega), (show 6 * c49c + 0 ≤ 120 by omega)⟩ rfl dX11_citings_150 (fun H locs hW hS hzz => ?_)
                        have hzb55 := hzz
                        refine lv_if_eq (tgt := 169) hx hb dX11_citings_153 (by decide) (fun c56 => ?_) (fun c56 => ?_)
                        · replace h := sh_t c56 h
                          refine lv_iload hx hb dX11_citings_169 (lv_at hl 9 rfl) ?_
                          refine W.widen (k := 20) (n := 120) (show c49c ≤ 20 by omega) (show 6 * c49c ≤ 120 by omega) ?_
                          exact tb_gret h had49 hmo49 hx hb hr hS hW hlk dX11_citings_171
                        · replace h := sh_f c56 h
                          refine lv_aload_n hx hb dX11_citings_156 rfl (lv_at hl 4 rfl) ?_
                          refine gtX11_10 hx hb hts hown hK hW cz11 dX11_citings_157 ?_
                          refine gtX11_96 hx hb hts hown hK hW cz5 dX11_citings_160 ?_
                          refine lv_sipush (v := (200 : Int32)) hx hb dX11_citings_163 (by decide) ?_
                          refine lv_icmp_lt (tgt := 172) hx hb dX11_citings_166 (by decide) (fun c57 => ?_) (fun c57 => ?_)
                          · replace h := sh_t c57 h
                            refine lv_iload hx hb dX11_citings_172 (lv_at hl 1 rfl) ?_
                            refine tb_cSZ hZk hx hb hml hown hts hK hZ hW hS [.int b53] (mX11_isWeight (l := l) hZk b53 M46 (fX11_isWeight b53) rfl) pmX11_isWeight tw516 ⟨Nat.le_of_ble_eq_true rfl, Nat.le_of_ble_eq_true rfl⟩ rfl hl.1 (Nat.le_of_ble_eq_true rfl) ⟨(show c49c + 0 ≤ 20 by omega), (show 6 * c49c + 0 ≤ 120 by omega)⟩ rfl dX11_citings_174 (fun H locs hW hS hzz => ?_)
                            refine lv_topi (fun b58 eb58 => ?_)
                            replace h := nm_a eb58 h
                            have hzb58 : b58 = 0 ∨ b58 = 1 := by rw [eb58]; exact hzz
                            refine lv_if_eq (tgt := 188) hx hb dX11_citings_177 (by decide) (fun c59 => ?_) (fun c59 => ?_)
                            · replace h := sh_t c59 h
                              refine lv_aload_n hx hb dX11_citings_188 rfl (lv_at hl 4 rfl) ?_
                              refine gtX11_10 hx hb hts hown hK hW cz11 dX11_citings_189 ?_
                              refine lv_aload hx hb dX11_citings_192 (lv_at hl 8 rfl) ?_
                              refine lv_iload hx hb dX11_citings_194 (lv_at hl 2 rfl) ?_
                              refine lv_iconst (v := (1 : Int32)) hx hb dX11_citings_196 (by decide) ?_
                              refine lv_iconst (v := (2 : Int32)) hx hb dX11_citings_197 (by decide) ?_
                              replace h := bE_a h
                              obtain ⟨b60, M61, hcb60, h⟩ := h
                              have hcl : c49c < 20 := cit_lt c7 c50 hci49 hc20_49
                              refine tb_cVA hZk hx hb hml hown hts hK hZ hW hS hAn [.ref (ad49 8 a2), .int b52, .int (1 : Int32), .int (2 : Int32)] (mX5_addLine (l := l) hZk (some a2) b52 (1 : Int32) (2 : Int32) M46 (fun z hz => Option.some.inj hz ▸ (Nat.lt_of_lt_of_le la2 (hmo49 _))) b60.1 M61 b60.2.1 b60.2.2 hcb60) pmX5_addLine tw519 (Wd.recv hK hW (t := 5) (by decide) cz5 (C := RX5) (T := TX5) (N := 7) rfl) ⟨Nat.le_of_ble_eq_true rfl, Nat.le_of_ble_eq_true rfl⟩ rfl hl.1 (Nat.le_of_ble_eq_true rfl) ⟨(show c49c + 1 ≤ 20 by omega), (show 6 * c49c + 6 ≤ 120 by omega)⟩ rfl dX11_citings_198 (fun ad62 H locs hW had62 hmo62 hS => ?_)
                              have had62x := fun t i hi => (had62 t i (Nat.lt_of_lt_of_le hi (hmo49 t))).trans (had49 t i hi)
                              have hmo62x := fun t => Nat.le_trans (hmo49 t) (hmo62 t)
                              have ek62_0 := had62 11 0 cz11
                              rw [← ek62_0] at hl
                              have ek62_5 := had62 8 a2 (Nat.lt_of_lt_of_le la2 (hmo49 _))
                              rw [← ek62_5] at hl
                              refine lv_pop hx hb dX11_citings_201 rfl ?_
                              refine lv_iload hx hb dX11_citings_202 (lv_at hl 9 rfl) ?_
                              refine lv_iconst (v := (1 : Int32)) hx hb dX11_citings_204 (by decide) ?_
                              refine lv_iadd hx hb dX11_citings_205 ?_
                              refine W.widen (k := 20) (n := 120) (show c49c + 1 ≤ 20 by omega) (show 6 * c49c + 6 ≤ 120 by omega) ?_
                              exact tb_gret h had62x hmo62x hx hb hr hS hW hlk dX11_citings_206
                            · replace h := sh_f c59 h
                              refine lv_iload hx hb dX11_citings_180 (lv_at hl 0 rfl) ?_
                              refine tb_cSZ hZk hx hb hml hown hts hK hZ hW hS [.int b54] (mX11_isSense (l := l) hZk b54 M46 (fX11_isSense b54) rfl) pmX11_isSense tw513 ⟨Nat.le_of_ble_eq_true rfl, Nat.le_of_ble_eq_true rfl⟩ rfl hl.1 (Nat.le_of_ble_eq_true rfl) ⟨(show c49c + 0 ≤ 20 by omega), (show 6 * c49c + 0 ≤ 120 by omega)⟩ rfl dX11_citings_182 (fun H locs hW hS hzz => ?_)
                              refine lv_topi (fun b63 eb63 => ?_)
                              replace h := nm_a eb63 h
                              have hzb63 : b63 = 0 ∨ b63 = 1 := by rw [eb63]; exact hzz
                              refine lv_if_ne (tgt := 207) hx hb dX11_citings_185 (by decide) (fun c64 => ?_) (fun c64 => ?_)
                              · replace h := sh_f c64 h
                                refine lv_aload_n hx hb dX11_citings_207 rfl (lv_at hl 4 rfl) ?_
                                refine gtX11_10 hx hb hts hown hK hW cz11 dX11_citings_208 ?_
                                refine lv_aload hx hb dX11_citings_211 (lv_at hl 8 rfl) ?_
                                refine lv_iload hx hb dX11_citings_213 (lv_at hl 2 rfl) ?_
                                refine lv_iload hx hb dX11_citings_215 (lv_at hl 1 rfl) ?_
                                refine lv_iload hx hb dX11_citings_217 (lv_at hl 0 rfl) ?_
                                replace h := bE_a h
                                obtain ⟨b65, M66, hcb65, h⟩ := h
                                have hcl : c49c < 20 := cit_lt c7 c50 hci49 hc20_49
                                refine tb_cVA hZk hx hb hml hown hts hK hZ hW hS hAn [.ref (ad49 8 a2), .int b52, .int b53, .int b54] (mX5_addLine (l := l) hZk (some a2) b52 b53 b54 M46 (fun z hz => Option.some.inj hz ▸ (Nat.lt_of_lt_of_le la2 (hmo49 _))) b65.1 M66 b65.2.1 b65.2.2 hcb65) pmX5_addLine tw519 (Wd.recv hK hW (t := 5) (by decide) cz5 (C := RX5) (T := TX5) (N := 7) rfl) ⟨Nat.le_of_ble_eq_true rfl, Nat.le_of_ble_eq_true rfl⟩ rfl hl.1 (Nat.le_of_ble_eq_true rfl) ⟨(show c49c + 1 ≤ 20 by omega), (show 6 * c49c + 6 ≤ 120 by omega)⟩ rfl dX11_citings_219 (fun ad67 H locs hW had67 hmo67 hS => ?_)
                                have had67x := fun t i hi => (had67 t i (Nat.lt_of_lt_of_le hi (hmo49 t))).trans (had49 t i hi)
                                have hmo67x := fun t => Nat.le_trans (hmo49 t) (hmo67 t)
                                have ek67_0 := had67 11 0 cz11
                                rw [← ek67_0] at hl
                                have ek67_5 := had67 8 a2 (Nat.lt_of_lt_of_le la2 (hmo49 _))
                                rw [← ek67_5] at hl
                                refine lv_pop hx hb dX11_citings_222 rfl ?_
                                obtain ⟨v68, ev68⟩ : ∃ y : Int32, y = i45 + (1 : Int32) := ⟨_, rfl⟩
                                replace h := nm_a ev68 h
                                refine lv_iinc (v := v68) (lv' := [(6, .int v68), (10, .int b54), (9, .int b53), (8, .int b52), (7, .int v51), (0, .ref (ad67 11 0)), (2, .int x2), (3, .int x3), (4, .int x4), (5, .ref (ad67 8 a2))]) hx hb dX11_citings_223 hl (k := 9) rfl (by rw [ev68]; rfl) (by decide) rfl (fun ls hl => ?_)
                                refine lv_goto (tgt := 93) hx hb dX11_citings_226 (by decide) ?_
                                exact ih44 v68 M66 b65.2.1 b65.2.2 ad67 (c49c + 1) _ _ _ hW had67x hmo67x (by rw [ev68, hci49]; exact nI_1 _) hcl hS (lv_sub hl [5, 6, 7, 8, 9, 0] rfl) h
                              · replace h := sh_t c64 h
                                refine lv_aload_n hx hb dX11_citings_188 rfl (lv_at hl 4 rfl) ?_
                                refine gtX11_10 hx hb hts hown hK hW cz11 dX11_citings_189 ?_
                                refine lv_aload hx hb dX11_citings_192 (lv_at hl 8 rfl) ?_
                                refine lv_iload hx hb dX11_citings_194 (lv_at hl 2 rfl) ?_
                                refine lv_iconst (v := (1 : Int32)) hx hb dX11_citings_196 (by decide) ?_
                                refine lv_iconst (v := (2 : Int32)) hx hb dX11_citings_197 (by decide) ?_
                                replace h := bE_a h
                                obtain ⟨b69, M70, hcb69, h⟩ := h
                                have hcl : c49c < 20 := cit_lt c7 c50 hci49 hc20_49
                                refine tb_cVA hZk hx hb hml hown hts hK hZ hW hS hAn [.ref (ad49 8 a2), .int b52, .int (1 : Int32), .int (2 : Int32)] (mX5_addLine (l := l) hZk (some a2) b52 (1 : Int32) (2 : Int32) M46 (fun z hz => Option.some.inj hz ▸ (Nat.lt_of_lt_of_le la2 (hmo49 _))) b69.1 M70 b69.2.1 b69.2.2 hcb69) pmX5_addLine tw519 (Wd.recv hK hW (t := 5) (by decide) cz5 (C := RX5) (T := TX5) (N := 7) rfl) ⟨Nat.le_of_ble_eq_true rfl, Nat.le_of_ble_eq_true rfl⟩ rfl hl.1 (Nat.le_of_ble_eq_true rfl) ⟨(show c49c + 1 ≤ 20 by omega), (show 6 * c49c + 6 ≤ 120 by omega)⟩ rfl dX11_citings_198 (fun ad71 H locs hW had71 hmo71 hS => ?_)
                                have had71x := fun t i hi => (had71 t i (Nat.lt_of_lt_of_le hi (hmo49 t))).trans (had49 t i hi)
                                have hmo71x := fun t => Nat.le_trans (hmo49 t) (hmo71 t)
                                have ek71_0 := had71 11 0 cz11
                                rw [← ek71_0] at hl
                                have ek71_5 := had71 8 a2 (Nat.lt_of_lt_of_le la2 (hmo49 _))
                                rw [← ek71_5] at hl
                                refine lv_pop hx hb dX11_citings_201 rfl ?_
                                refine lv_iload hx hb dX11_citings_202 (lv_at hl 9 rfl) ?_
                                refine lv_iconst (v := (1 : Int32)) hx hb dX11_citings_204 (by decide) ?_
                                refine lv_iadd hx hb dX11_citings_205 ?_
                                refine W.widen (k := 20) (n := 120) (show c49c + 1 ≤ 20 by omega) (show 6 * c49c + 6 ≤ 120 by omega) ?_
                                exact tb_gret h had71x hmo71x hx hb hr hS hW hlk dX11_citings_206
                          · replace h := sh_f c57 h
                            refine lv_iload hx hb dX11_citings_169 (lv_at hl 9 rfl) ?_
                            refine W.widen (k := 20) (n := 120) (show c49c ≤ 20 by omega) (show 6 * c49c ≤ 120 by omega) ?_
                            exact tb_gret h had49 hmo49 hx hb hr hS hW hlk dX11_citings_171
                  exact L44 FU (0 : Int32) M0 nS nL ad 0 _ _ _ hW (fun _ _ _ => rfl) (fun _ => Nat.le_refl _) nI_0.symm (Nat.zero_le _) hS (lv_sub hl [2, 4, 5, 6, 1, 0] rfl) h
                · replace h := sh_t c43 h
                  refine lv_iconst (v := (0 : Int32)) hx hb dX11_citings_88 (by decide) ?_
                  refine W.widen (k := 20) (n := 120) (Nat.le_of_ble_eq_true rfl) (Nat.le_of_ble_eq_true rfl) ?_
                  exact tb_gret h (fun _ _ _ => rfl) (fun _ => Nat.le_refl _) hx hb hr hS hW hlk dX11_citings_89
              · replace h := sh_t c41 h
                refine lv_bipush (v := (-12 : Int32)) hx hb dX11_citings_73 (by decide) ?_
                refine W.widen (k := 20) (n := 120) (Nat.le_of_ble_eq_true rfl) (Nat.le_of_ble_eq_true rfl) ?_
                exact tb_gret h (fun _ _ _ => rfl) (fun _ => Nat.le_refl _) hx hb hr hS hW hlk dX11_citings_75
          · replace h := sh_f c7 h
            refine lv_iconst (v := (-1 : Int32)) hx hb dX11_citings_48 (by decide) ?_
            refine W.widen (k := 20) (n := 120) (Nat.le_of_ble_eq_true rfl) (Nat.le_of_ble_eq_true rfl) ?_
            exact tb_gret h (fun _ _ _ => rfl) (fun _ => Nat.le_refl _) hx hb hr hS hW hlk dX11_citings_49
def fX11_shift (x1 : Int32) (x2 : Int32) (x3 : Int32) (x4 : Int32) (x5 : Int32) (M0 : Mem) : Option (Int32 × Mem) :=
  nm (fX6_isPlace x1) fun b1 => if b1 = 0 then (some ((-1 : Int32), M0)) else (nm (fX6_isPlace x3) fun b3 => if b3 = 0 then (some ((-1 : Int32), M0)) else (bd (fX6_isEmpty x1 M0) fun b5 => if b5 = 0 then (bd (fX6_isEmpty x3 M0) fun b7 => if b7 = 0 then (bd (fX6_isRow x1 M0) fun b9 => if b9 = 0 then (some ((-12 : Int32), M0)) else (bd (fX6_isRow x3 M0) fun b11 => if b11 = 0 then (some ((-12 : Int32), M0)) else (bd (fX6_areAlike x1 x3 M0) fun b13 => if b13 = 0 then (some ((-12 : Int32), M0)) else (bd (fX6_hasRange x1 x2 x5 M0) fun b15 => if b15 = 0 then (some ((-13 : Int32), M0)) else (bd (fX6_hasRange x3 x4 x5 M0) fun b17 => if b17 = 0 then (some ((-13 : Int32), M0)) else (bE (fX6_move x1 x2 x3 x4 x5 M0) fun u19 M20 => some (x5, M20))))))) else (some ((-11 : Int32), M0))) else (some ((-11 : Int32), M0))))
set_option maxHeartbeats 4000000 in
set_option maxRecDepth 100000 in
theorem mX11_shift {l : Launch} {D : va_G} {cy : Nat → ClassId} {A : Nat → Prop} {K : KC} {nS nL : Nat} {ad : Nat → Nat → Nat} (hZk : ZOK A (ZC A K)) (x1 : Int32) (x2 : Int32) (x3 : Int32) (x4 : Int32) (x5 : Int32) (M0 : Mem) (r : Int32) (M' : Mem) (h : fX11_shift x1 x2 x3 x4 x5 M0 = some (r, M')) : Met l yX11_shift (wt yX11_shift cX11_shift 6 (some .int)) (rm 2 85) (CPre D cy A (ZC A K) (cnC nS nL) ad M0 [.ref (ad 11 0), .int x1, .int x2, .int x3, .int x4, .int x5]) (QI D cy A (cnC nS nL) ad r M') 0 0 A := by
  refine tb_start [.ref (ad 11 0), .int x1, .int x2, .int x3, .int x4, .int x5] [(0, .ref (ad 11 0)), (1, .int x1), (2, .int x2), (3, .int x3), (4, .int x4), (5, .int x5)] RX11 rfl (by decide +kernel) (Nat.le_of_ble_eq_true rfl) rfl (fun p e s m args below meth c hx hb hr hml hown hts hlk hW hK hZ ls hl => ?_)
  have hS : va_S A s.heap s.heap [] := va_S.rf
  unfold fX11_shift at h
  refine lv_aload_n hx hb dX11_shift_0 rfl (lv_at hl 0 rfl) ?_
  refine gtX11_65 hx hb hts hown hK hW cz11 dX11_shift_1 ?_
  refine lv_iload_n hx hb dX11_shift_4 rfl (lv_at hl 1 rfl) ?_
  refine tb_cVZ hZk hx hb hml hown hts hK hZ hW hS [.int x1] (mX6_isPlace (l := l) hZk x1 M0 (fX6_isPlace x1) rfl) pmX6_isPlace tw580 (Wd.recv hK hW (t := 6) (by decide) cz6 (C := RX6) (T := TX6) (N := 4) rfl) ⟨Nat.le_of_ble_eq_true rfl, Nat.le_of_ble_eq_true rfl⟩ rfl hl.1 (Nat.le_of_ble_eq_true rfl) ⟨Nat.le_refl _, Nat.le_refl _⟩ rfl dX11_shift_5 (fun H locs hW hS hzz => ?_)
  refine lv_topi (fun b1 eb1 => ?_)
  replace h := nm_a eb1 h
  have hzb1 : b1 = 0 ∨ b1 = 1 := by rw [eb1]; exact hzz
  refine lv_if_eq (tgt := 22) hx hb dX11_shift_8 (by decide) (fun c2 => ?_) (fun c2 => ?_)
  · replace h := sh_t c2 h
    refine lv_iconst (v := (-1 : Int32)) hx hb dX11_shift_22 (by decide) ?_
    exact tb_iretE h hx hb hr hS hW hlk dX11_shift_23
  · replace h := sh_f c2 h
    refine lv_aload_n hx hb dX11_shift_11 rfl (lv_at hl 0 rfl) ?_
    refine gtX11_65 hx hb hts hown hK hW cz11 dX11_shift_12 ?_
    refine lv_iload_n hx hb dX11_shift_15 rfl (lv_at hl 3 rfl) ?_
    refine tb_cVZ hZk hx hb hml hown hts hK hZ hW hS [.int x3] (mX6_isPlace (l := l) hZk x3 M0 (fX6_isPlace x3) rfl) pmX6_isPlace tw580 (Wd.recv hK hW (t := 6) (by decide) cz6 (C := RX6) (T := TX6) (N := 4) rfl) ⟨Nat.le_of_ble_eq_true rfl, Nat.le_of_ble_eq_true rfl⟩ rfl hl.1 (Nat.le_of_ble_eq_true rfl) ⟨Nat.le_refl _, Nat.le_refl _⟩ rfl dX11_shift_16 (fun H locs hW hS hzz => ?_)
    refine lv_topi (fun b3 eb3 => ?_)
    replace h := nm_a eb3 h
    have hzb3 : b3 = 0 ∨ b3 = 1 := by rw [eb3]; exact hzz
    refine lv_if_ne (tgt := 24) hx hb dX11_shift_19 (by decide) (fun c4 => ?_) (fun c4 => ?_)
    · replace h := sh_f c4 h
      refine lv_aload_n hx hb dX11_shift_24 rfl (lv_at hl 0 rfl) ?_
      refine gtX11_65 hx hb hts hown hK hW cz11 dX11_shift_25 ?_
      refine lv_iload_n hx hb dX11_shift_28 rfl (lv_at hl 1 rfl) ?_
      replace h := bd_a h
      obtain ⟨b5, hcb5, h⟩ := h
      refine tb_cVZ hZk hx hb hml hown hts hK hZ hW hS [.int x1] (mX6_isEmpty (l := l) hZk x1 M0 b5 hcb5) pmX6_isEmpty tw584 (Wd.recv hK hW (t := 6) (by decide) cz6 (C := RX6) (T := TX6) (N := 4) rfl) ⟨Nat.le_of_ble_eq_true rfl, Nat.le_of_ble_eq_true rfl⟩ rfl hl.1 (Nat.le_of_ble_eq_true rfl) ⟨Nat.le_refl _, Nat.le_refl _⟩ rfl dX11_shift_29 (fun H locs hW hS hzz => ?_)
      have hzb5 := hzz
      refine lv_if_ne (tgt := 46) hx hb dX11_shift_32 (by decide) (fun c6 => ?_) (fun c6 => ?_)
      · replace h := sh_f c6 h
        refine lv_bipush (v := (-11 : Int32)) hx hb dX11_shift_46 (by decide) ?_
        exact tb_iretE h hx hb hr hS hW hlk dX11_shift_48
      · replace h := sh_t c6 h
        refine lv_aload_n hx hb dX11_shift_35 rfl (lv_at hl 0 rfl) ?_
        refine gtX11_65 hx hb hts hown hK hW cz11 dX11_shift_36 ?_
        refine lv_iload_n hx hb dX11_shift_39 rfl (lv_at hl 3 rfl) ?_
        replace h := bd_a h
        obtain ⟨b7, hcb7, h⟩ := h
        refine tb_cVZ hZk hx hb hml hown hts hK hZ hW hS [.int x3] (mX6_isEmpty (l := l) hZk x3 M0 b7 hcb7) pmX6_isEmpty tw584 (Wd.recv hK hW (t := 6) (by decide) cz6 (C := RX6) (T := TX6) (N := 4) rfl) ⟨Nat.le_of_ble_eq_true rfl, Nat.le_of_ble_eq_true rfl⟩ rfl hl.1 (Nat.le_of_ble_eq_true rfl) ⟨Nat.le_refl _, Nat.le_refl _⟩ rfl dX11_shift_40 (fun H locs hW hS hzz => ?_)
        have hzb7 := hzz
        refine lv_if_eq (tgt := 49) hx hb dX11_shift_43 (by decide) (fun c8 => ?_) (fun c8 => ?_)
        · replace h := sh_t c8 h
          refine lv_aload_n hx hb dX11_shift_49 rfl (lv_at hl 0 rfl) ?_
          refine gtX11_65 hx hb hts hown hK hW cz11 dX11_shift_50 ?_
          refine lv_iload_n hx hb dX11_shift_53 rfl (lv_at hl 1 rfl) ?_
          replace h := bd_a h
          obtain ⟨b9, hcb9, h⟩ := h
          refine tb_cVZ hZk hx hb hml hown hts hK hZ hW hS [.int x1] (mX6_isRow (l := l) hZk x1 M0 b9 hcb9) pmX6_isRow tw1183 (Wd.recv hK hW (t := 6) (by decide) cz6 (C := RX6) (T := TX6) (N := 4) rfl) ⟨Nat.le_of_ble_eq_true rfl, Nat.le_of_ble_eq_true rfl⟩ rfl hl.1 (Nat.le_of_ble_eq_true rfl) ⟨Nat.le_refl _, Nat.le_refl _⟩ rfl dX11_shift_54 (fun H locs hW hS hzz => ?_)
          have hzb9 := hzz
          refine lv_if_eq (tgt := 83) hx hb dX11_shift_57 (by decide) (fun c10 => ?_) (fun c10 => ?_)
          · replace h := sh_t c10 h
            refine lv_bipush (v := (-12 : Int32)) hx hb dX11_shift_83 (by decide) ?_
            exact tb_iretE h hx hb hr hS hW hlk dX11_shift_85
          · replace h := sh_f c10 h
            refine lv_aload_n hx hb dX11_shift_60 rfl (lv_at hl 0 rfl) ?_
            refine gtX11_65 hx hb hts hown hK hW cz11 dX11_shift_61 ?_
            refine lv_iload_n hx hb dX11_shift_64 rfl (lv_at hl 3 rfl) ?_
            replace h := bd_a h
            obtain ⟨b11, hcb11, h⟩ := h
            refine tb_cVZ hZk hx hb hml hown hts hK hZ hW hS [.int x3] (mX6_isRow (l := l) hZk x3 M0 b11 hcb11) pmX6_isRow tw1183 (Wd.recv hK hW (t := 6) (by decide) cz6 (C := RX6) (T := TX6) (N := 4) rfl) ⟨Nat.le_of_ble_eq_true rfl, Nat.le_of_ble_eq_true rfl⟩ rfl hl.1 (Nat.le_of_ble_eq_true rfl) ⟨Nat.le_refl _, Nat.le_refl _⟩ rfl dX11_shift_65 (fun H locs hW hS hzz => ?_)
            have hzb11 := hzz
            refine lv_if_eq (tgt := 83) hx hb dX11_shift_68 (by decide) (fun c12 => ?_) (fun c12 => ?_)
            · replace h := sh_t c12 h
              refine lv_bipush (v := (-12 : Int32)) hx hb dX11_shift_83 (by decide) ?_
              exact tb_iretE h hx hb hr hS hW hlk dX11_shift_85
            · replace h := sh_f c12 h
              refine lv_aload_n hx hb dX11_shift_71 rfl (lv_at hl 0 rfl) ?_
              refine gtX11_65 hx hb hts hown hK hW cz11 dX11_shift_72 ?_
              refine lv_iload_n hx hb dX11_shift_75 rfl (lv_at hl 1 rfl) ?_
              refine lv_iload_n hx hb dX11_shift_76 rfl (lv_at hl 3 rfl) ?_
              replace h := bd_a h
              obtain ⟨b13, hcb13, h⟩ := h
              refine tb_cVZ hZk hx hb hml hown hts hK hZ hW hS [.int x1, .int x3] (mX6_areAlike (l := l) hZk x1 x3 M0 b13 hcb13) pmX6_areAlike tw1184 (Wd.recv hK hW (t := 6) (by decide) cz6 (C := RX6) (T := TX6) (N := 4) rfl) ⟨Nat.le_of_ble_eq_true rfl, Nat.le_of_ble_eq_true rfl⟩ rfl hl.1 (Nat.le_of_ble_eq_true rfl) ⟨Nat.le_refl _, Nat.le_refl _⟩ rfl dX11_shift_77 (fun H locs hW hS hzz => ?_)
              have hzb13 := hzz
              refine lv_if_ne (tgt := 86) hx hb dX11_shift_80 (by decide) (fun c14 => ?_) (fun c14 => ?_)
              · replace h := sh_f c14 h
                refine lv_aload_n hx hb dX11_shift_86 rfl (lv_at hl 0 rfl) ?_
                refine gtX11_65 hx hb hts hown hK hW cz11 dX11_shift_87 ?_
                refine lv_iload_n hx hb dX11_shift_90 rfl (lv_at hl 1 rfl) ?_
                refine lv_iload_n hx hb dX11_shift_91 rfl (lv_at hl 2 rfl) ?_
                refine lv_iload hx hb dX11_shift_92 (lv_at hl 5 rfl) ?_
                replace h := bd_a h
                obtain ⟨b15, hcb15, h⟩ := h
                refine tb_cVZ hZk hx hb hml hown hts hK hZ hW hS [.int x1, .int x2, .int x5] (mX6_hasRange (l := l) hZk x1 x2 x5 M0 b15 hcb15) pmX6_hasRange tw1188 (Wd.recv hK hW (t := 6) (by decide) cz6 (C := RX6) (T := TX6) (N := 4) rfl) ⟨Nat.le_of_ble_eq_true rfl, Nat.le_of_ble_eq_true rfl⟩ rfl hl.1 (Nat.le_of_ble_eq_true rfl) ⟨Nat.le_refl _, Nat.le_refl _⟩ rfl dX11_shift_94 (fun H locs hW hS hzz => ?_)
                have hzb15 := hzz
                refine lv_if_eq (tgt := 115) hx hb dX11_shift_97 (by decide) (fun c16 => ?_) (fun c16 => ?_)
                · replace h := sh_t c16 h
                  refine lv_bipush (v := (-13 : Int32)) hx hb dX11_shift_115 (by decide) ?_
                  exact tb_iretE h hx hb hr hS hW hlk dX11_shift_117
                · replace h := sh_f c16 h
                  refine lv_aload_n hx hb dX11_shift_100 rfl (lv_at hl 0 rfl) ?_
                  refine gtX11_65 hx hb hts hown hK hW cz11 dX11_shift_101 ?_
                  refine lv_iload_n hx hb dX11_shift_104 rfl (lv_at hl 3 rfl) ?_
                  refine lv_iload hx hb dX11_shift_105 (lv_at hl 4 rfl) ?_
                  refine lv_iload hx hb dX11_shift_107 (lv_at hl 5 rfl) ?_
                  replace h := bd_a h
                  obtain ⟨b17, hcb17, h⟩ := h
                  refine tb_cVZ hZk hx hb hml hown hts hK hZ hW hS [.int x3, .int x4, .int x5] (mX6_hasRange (l := l) hZk x3 x4 x5 M0 b17 hcb17) pmX6_hasRange tw1188 (Wd.recv hK hW (t := 6) (by decide) cz6 (C := RX6) (T := TX6) (N := 4) rfl) ⟨Nat.le_of_ble_eq_true rfl, Nat.le_of_ble_eq_true rfl⟩ rfl hl.1 (Nat.le_of_ble_eq_true rfl) ⟨Nat.le_refl _, Nat.le_refl _⟩ rfl dX11_shift_109 (fun H locs hW hS hzz => ?_)
                  have hzb17 := hzz
                  refine lv_if_ne (tgt := 118) hx hb dX11_shift_112 (by decide) (fun c18 => ?_) (fun c18 => ?_)
                  · replace h := sh_f c18 h
                    refine lv_aload_n hx hb dX11_shift_118 rfl (lv_at hl 0 rfl) ?_
                    refine gtX11_65 hx hb hts hown hK hW cz11 dX11_shift_119 ?_
                    refine lv_iload_n hx hb dX11_shift_122 rfl (lv_at hl 1 rfl) ?_
                    refine lv_iload_n hx hb dX11_shift_123 rfl (lv_at hl 2 rfl) ?_
                    refine lv_iload_n hx hb dX11_shift_124 rfl (lv_at hl 3 rfl) ?_
                    refine lv_iload hx hb dX11_shift_125 (lv_at hl 4 rfl) ?_
                    refine lv_iload hx hb dX11_shift_127 (lv_at hl 5 rfl) ?_
                    replace h := bE_a h
                    obtain ⟨u19, M20, hcu19, h⟩ := h
                    refine tb_cVV hZk hx hb hml hown hts hK hZ hW hS [.int x1, .int x2, .int x3, .int x4, .int x5] (mX6_move (l := l) hZk x1 x2 x3 x4 x5 M0 u19 M20 hcu19) pmX6_move tw1192 (Wd.recv hK hW (t := 6) (by decide) cz6 (C := RX6) (T := TX6) (N := 4) rfl) ⟨Nat.le_of_ble_eq_true rfl, Nat.le_of_ble_eq_true rfl⟩ rfl hl.1 (Nat.le_of_ble_eq_true rfl) ⟨Nat.le_refl _, Nat.le_refl _⟩ rfl dX11_shift_129 (fun H locs hW hS => ?_)
                    refine lv_iload hx hb dX11_shift_132 (lv_at hl 5 rfl) ?_
                    exact tb_iretE h hx hb hr hS hW hlk dX11_shift_134
                  · replace h := sh_t c18 h
                    refine lv_bipush (v := (-13 : Int32)) hx hb dX11_shift_115 (by decide) ?_
                    exact tb_iretE h hx hb hr hS hW hlk dX11_shift_117
              · replace h := sh_t c14 h
                refine lv_bipush (v := (-12 : Int32)) hx hb dX11_shift_83 (by decide) ?_
                exact tb_iretE h hx hb hr hS hW hlk dX11_shift_85
        · replace h := sh_f c8 h
          refine lv_bipush (v := (-11 : Int32)) hx hb dX11_shift_46 (by decide) ?_
          exact tb_iretE h hx hb hr hS hW hlk dX11_shift_48
    · replace h := sh_t c4 h
      refine lv_iconst (v := (-1 : Int32)) hx hb dX11_shift_22 (by decide) ?_
      exact tb_iretE h hx hb hr hS hW hlk dX11_shift_23
