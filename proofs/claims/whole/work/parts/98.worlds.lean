/-! the constants and classes, out of what the Statement gives of the start -/
abbrev flG : List Cond := flatC (Jvm.Cond.and given_1 narrow_1)
def sPos (i : Nat) : Nat := ([946, 960, 961, 966, 970, 971, 972, 973, 974, 975, 976, 222] : List Nat).getD i 0
set_option maxRecDepth 20000 in
theorem sr_ok : ∀ i, i < 12 → lw_tbl[sPos i]? = some (Cond.stringRef (sOwn i) (sIdx i) (sTxt i)) := by decide +kernel
abbrev sTm (i : Nat) : Term := Term.string (sOwn i) (sIdx i)
abbrev sVa (i : Nat) : Term := Term.field (sTm i) "java/lang/String" "value" "[B"
set_option maxRecDepth 20000 in
theorem sf_1 : ∀ i, i < 12 → Cond.exactly (sTm i) "java/lang/String" ∈ flG := by decide +kernel
set_option maxRecDepth 20000 in
theorem sf_2 : ∀ i, i < 12 → Cond.eq (.field (sTm i) "java/lang/String" "coder" "B") (.int 0) ∈ flG := by decide +kernel
set_option maxRecDepth 20000 in
theorem sf_3 : ∀ i, i < 12 → Cond.arrayOf (sVa i) .byte ∈ flG := by decide +kernel
set_option maxRecDepth 20000 in
theorem sf_4 : ∀ i, i < 12 → Cond.eq (.length (sVa i)) (.int (Int32.ofNat (slen i))) ∈ flG := by decide +kernel
set_option maxRecDepth 20000 in
theorem sf_5 : ∀ i, i < 12 → ∀ j, j < slen i → Cond.eq (.elem (sVa i) (.int (Int32.ofNat j))) (.int (sbt i j)) ∈ flG := by decide +kernel
theorem sl_lt : ∀ i, i < 12 → slen i < 2 ^ 31 := by decide +kernel
abbrev owvT : Term := Term.static "TakenBack$Acts" "OWN" "[I"
set_option maxRecDepth 20000 in
theorem owv_1 : Cond.arrayOf owvT .int ∈ flG := by decide +kernel
set_option maxRecDepth 20000 in
theorem owv_2 : Cond.eq (.length owvT) (.int (Int32.ofNat 28)) ∈ flG := by decide +kernel
set_option maxRecDepth 20000 in
theorem owv_3 : ∀ j, j < 28 → Cond.eq (.elem owvT (.int (Int32.ofNat j))) (.int (tOw j)) ∈ flG := by decide +kernel
theorem owv_4 : Cond.laysStatic "TakenBack$Acts" "OWN" "[I" ∈ lw_tbl := List.mem_of_getElem? (i := 1129) (by decide +kernel)
abbrev abvT : Term := Term.static "TakenBack$Acts" "ABOVE" "[I"
set_option maxRecDepth 20000 in
theorem abv_1 : Cond.arrayOf abvT .int ∈ flG := by decide +kernel
set_option maxRecDepth 20000 in
theorem abv_2 : Cond.eq (.length abvT) (.int (Int32.ofNat 7)) ∈ flG := by decide +kernel
set_option maxRecDepth 20000 in
theorem abv_3 : ∀ j, j < 7 → Cond.eq (.elem abvT (.int (Int32.ofNat j))) (.int (tAb j)) ∈ flG := by decide +kernel
theorem abv_4 : Cond.laysStatic "TakenBack$Acts" "ABOVE" "[I" ∈ lw_tbl := List.mem_of_getElem? (i := 1131) (by decide +kernel)
set_option maxRecDepth 20000 in
theorem cs_1 : Cond.eq (.static "java/lang/String" "COMPACT_STRINGS" "Z") (.int 1) ∈ flG := by decide +kernel
theorem cs_2 : Cond.laysStatic "java/lang/String" "COMPACT_STRINGS" "Z" ∈ lw_tbl := List.mem_of_getElem? (i := 232) (by decide +kernel)
def nPos (i : Nat) : Nat := ([109, 208, 273, 278, 332, 356, 510, 569, 629, 681, 813, 818, 819, 1026] : List Nat).getD i 0
set_option maxRecDepth 20000 in
theorem nl_ok : ∀ k, k < 14 → lw_tbl[nPos k]? = (nTab[k]?).map (fun q => Cond.methodLinkNest q.1 q.2.1 q.2.2.1 q.2.2.2) := by decide +kernel
theorem fl_ok : Cond.fieldLinkNest "TakenBack" 410 "TakenBack$Acts" "ABOVE" "[I" "TakenBack" ∈ lw_tbl := List.mem_of_getElem? (i := 1210) (by decide +kernel)
theorem ao_1 : Cond.arrayOver (.object "TakenBack$Stone") ∈ lw_tbl := List.mem_of_getElem? (i := 114) (by decide +kernel)
theorem ao_2 : Cond.arrayOver (.object "TakenBack$Line") ∈ lw_tbl := List.mem_of_getElem? (i := 116) (by decide +kernel)
theorem zi_start {b : Nat} {s : State} {A : Nat → Prop} (hts : ∀ w ∈ lw_tbl, w.before #[Value.ref b] s = true) (hgv : ∀ w ∈ flG, w.before #[Value.ref b] s = true) (hA : ∀ a : Nat, a < s.heap.size → ¬ A a) : ∃ K : KC, ZI A K s s.heap := by
  have h0 : ∀ i : Nat, ∃ q : Nat × Nat, i < 12 → (sTm i).eval #[Value.ref b] s none [] s = some (.ref q.1) ∧ va_O "java/lang/String" q.1 A s s.heap ∧ va_OF "java/lang/String" "coder" "B" (.int 0) q.1 A s s.heap ∧ va_OF "java/lang/String" "value" "[B" (.ref q.2) q.1 A s s.heap ∧ va_T .byte q.2 (slen i) (fun j => .int (sbt i j)) A s s.heap := by
    intro i
    by_cases hi : i < 12
    · obtain ⟨a, c, cA, kA, q1, q2, q3, q4, q5, q6, -⟩ := Cond.exactly_spec (args := #[Value.ref b]) (first := s) (o := none) (s := s) (idx := []) (t := sTm i) (cls := "java/lang/String") (hgv _ (sf_1 i hi))
      obtain ⟨t, ht, hT⟩ := va_Tof (f := fun j => .int (sbt i j)) (A := A) (sl_lt i hi) (hgv _ (sf_3 i hi)) (va_eqt (hgv _ (sf_4 i hi))) (fun j hj => va_eqt (hgv _ (sf_5 i hi j hj))) hA
      exact ⟨(a, t), fun _ => ⟨q1, ⟨cA, q3, q5, by rw [q6]; exact q2, hA a (Array.getElem?_eq_some_iff.mp q3).1⟩, vk_OFof q1 (va_eqt (hgv _ (sf_2 i hi))) hA, vk_OFof q1 ht hA, hT⟩⟩
    · exact ⟨(0, 0), fun h => absurd h hi⟩
  obtain ⟨ad, had⟩ := Classical.axiomOfChoice h0
  obtain ⟨t1, e1, T1⟩ := va_Tof (tm := abvT) (ty := .int) (N := 7) (f := fun j => .int (tAb j)) (A := A) (by decide) (hgv _ abv_1) (va_eqt (hgv _ abv_2)) (fun j hj => va_eqt (hgv _ (abv_3 j hj))) hA
  obtain ⟨t2, e2, T2⟩ := va_Tof (tm := owvT) (ty := .int) (N := 28) (f := fun j => .int (tOw j)) (A := A) (by decide) (hgv _ owv_1) (va_eqt (hgv _ owv_2)) (fun j hj => va_eqt (hgv _ (owv_3 j hj))) hA
  have hI : (Cond.initialized "TakenBack$Acts").before #[Value.ref b] s = true := hts _ (List.mem_filter.mp tw86).1
  refine ⟨((fun i => (ad i).1), (fun i => (ad i).2), t1, t2), ⟨fun i hi => (had i hi).2, fun i hi => vk_R.of (hts _ (List.mem_of_getElem? (sr_ok i hi))) (had i hi).1, va_Zof (hts _ cs_2) (hts _ (List.mem_filter.mp tw83).1) (va_eqi (hgv _ cs_1)) hA, ⟨va_Zof (hts _ abv_4) hI e1 hA, T1⟩, ⟨va_Zof (hts _ owv_4) hI e2 hA, T2⟩, fun k q hq => ?_, hts _ fl_ok⟩, hts _ ao_1, hts _ ao_2⟩
  have hk : k < 14 := (List.getElem?_eq_some_iff.mp hq).1
  have e := nl_ok k hk
  rw [hq] at e
  exact hts _ (List.mem_of_getElem? e)
theorem arr_P {args : Array Value} {s : State} {ty : FieldType} (h : (Cond.arrayClass ty).before args s = true) (hn : ∀ C, ty ≠ .object C) : ∃ cA : ClassId, ArrOfT s cA ty ∧ va_RA s cA ty := by
  obtain ⟨c, k, comp, h1, h2, h3⟩ := Cond.arrayClass_spec h
  refine ⟨c, fun n z => ⟨(fun k h => by cases h), k, h2, comp, h3⟩, ?_⟩
  cases ty with
  | object C => exact absurd rfl (hn C)
  | _ => exact h1
theorem arr_R {args : Array Value} {s : State} {C : String} (h : (Cond.arrayOver (.object C)).before args s = true) : ∃ cA : ClassId, ArrOfT s cA (.object C) ∧ va_RA s cA (.object C) := by
  obtain ⟨comp, c, k, h1, -, h3, h4, h5⟩ := Cond.arrayOver_spec h
  exact ⟨c, fun n z => ⟨(fun k h => by cases h), k, h3, comp, h4⟩, k, comp, h3, h4, h1, h5⟩
theorem vk_start {b : Nat} {s : State} (hts : ∀ w ∈ lw_tg, w.before #[Value.ref b] s = true) (h1 : (Cond.arrayOver (.object "TakenBack$Stone")).before #[Value.ref b] s = true) (h2 : (Cond.arrayOver (.object "TakenBack$Line")).before #[Value.ref b] s = true) : ∃ (D : va_G) (cy : Nat → ClassId), va_K D vwCl (tysA cy) s := by
  obtain ⟨c0, i0, k0⟩ := u_known (C := RX0) (T := TX0) (N := 5) (n := 5) hts inX0 (hts _ tw331)
  obtain ⟨c1, i1, k1⟩ := u_known (C := RX1) (T := TX1) (N := 8) (n := 8) hts inX1 (hts _ tw298)
  obtain ⟨c2, i2, k2⟩ := u_known (C := RX2) (T := TX2) (N := 5) (n := 5) hts inX2 (hts _ tw155)
  obtain ⟨c3, i3, k3⟩ := u_known (C := RX3) (T := TX3) (N := 10) (n := 10) hts inX3 (hts _ tw201)
  obtain ⟨c4, i4, k4⟩ := u_known (C := RX4) (T := TX4) (N := 6) (n := 6) hts inX4 (hts _ tw523)
  obtain ⟨c5, i5, k5⟩ := u_known (C := RX5) (T := TX5) (N := 7) (n := 7) hts inX5 (hts _ tw108)
  obtain ⟨c6, i6, k6⟩ := u_known (C := RX6) (T := TX6) (N := 4) (n := 4) hts inX6 (hts _ tw355)
  obtain ⟨c7, i7, k7⟩ := u_known (C := RX7) (T := TX7) (N := 5) (n := 5) hts inX7 (hts _ tw272)
  obtain ⟨c8, i8, k8⟩ := u_known (C := RX8) (T := TX8) (N := 16) (n := 16) hts inX8 (hts _ tw412)
  obtain ⟨c9, i9, k9⟩ := u_known (C := RX9) (T := TX9) (N := 4) (n := 4) hts inX9 (hts _ tw180)
  obtain ⟨c10, i10, k10⟩ := u_known (C := RX10) (T := TX10) (N := 2) (n := 2) hts inX10 (hts _ tw207)
  obtain ⟨c11, i11, k11⟩ := u_known (C := RX11) (T := TX11) (N := 8) (n := 8) hts inX11 (hts _ tw100)
  obtain ⟨c12, i12, k12⟩ := u_known (C := RX12) (T := TX12) (N := 58) (n := 58) hts inX12 (hts _ tw1216)
  obtain ⟨y0, z0⟩ := arr_P (hts _ twA_int) (fun C h => by cases h)
  obtain ⟨y1, z1⟩ := arr_P (hts _ twA_long) (fun C h => by cases h)
  obtain ⟨y2, z2⟩ := arr_P (hts _ twA_boolean) (fun C h => by cases h)
  obtain ⟨y3, z3⟩ := arr_P (hts _ twA_byte) (fun C h => by cases h)
  obtain ⟨y4, z4⟩ := arr_P (hts _ twA_short) (fun C h => by cases h)
  obtain ⟨y5, z5⟩ := arr_R h1
  obtain ⟨y6, z6⟩ := arr_R h2
  refine ⟨(fun k => ([c0, c1, c2, c3, c4, c5, c6, c7, c8, c9, c10, c11, c12]).getD k c0, fun k => ([i0, i1, i2, i3, i4, i5, i6, i7, i8, i9, i10, i11, i12]).getD k i0), fun k => ([y0, y1, y2, y3, y4, y5, y6]).getD k y0, fun k q hq => ?_, fun k q hq => ?_⟩
  · have hk : k < 13 := (List.getElem?_eq_some_iff.mp hq).1
    rcases (show k = 0 ∨ k = 1 ∨ k = 2 ∨ k = 3 ∨ k = 4 ∨ k = 5 ∨ k = 6 ∨ k = 7 ∨ k = 8 ∨ k = 9 ∨ k = 10 ∨ k = 11 ∨ k = 12 by omega) with rfl | rfl | rfl | rfl | rfl | rfl | rfl | rfl | rfl | rfl | rfl | rfl | rfl
    · cases hq; exact k0
    · cases hq; exact k1
    · cases hq; exact k2
    · cases hq; exact k3
    · cases hq; exact k4
    · cases hq; exact k5
    · cases hq; exact k6
    · cases hq; exact k7
    · cases hq; exact k8
    · cases hq; exact k9
    · cases hq; exact k10
    · cases hq; exact k11
    · cases hq; exact k12
  · have hk : k < 7 := (List.getElem?_eq_some_iff.mp hq).1
    rcases (show k = 0 ∨ k = 1 ∨ k = 2 ∨ k = 3 ∨ k = 4 ∨ k = 5 ∨ k = 6 by omega) with rfl | rfl | rfl | rfl | rfl | rfl | rfl
    · cases hq; exact z0
    · cases hq; exact z1
    · cases hq; exact z2
    · cases hq; exact z3
    · cases hq; exact z4
    · cases hq; exact z5
    · cases hq; exact z6
/-! the worlds as the constructors leave them -/
theorem Wd_o {D : va_G} {ad : Nat → Nat → Nat} {M : Mem} {H : Heap} {ws : va_W} (hP : va_P D vwCl ws H) (k : Nat) {a t n i : Nat} {fs : List Value} {r : vw_C} (hk : ws[k]? = some (a, .inr (t, fs))) (hr : vwCl[t]? = some r) (hn : r.2.2 = n) (hf : ∀ j, j < n → vp_V fs j = fvk ad M t i j (oK t j)) : t_OB a (D.1 t) n (D.2 t) H (fun j => fvk ad M t i j (oK t j)) := by
  have h : ∃ r' : vw_C, vwCl[t]? = some r' ∧ t_OB a (D.1 t) r'.2.2 (D.2 t) H (vp_V fs) := hP k _ hk
  obtain ⟨r', h1, h2⟩ := h
  rw [hr] at h1
  cases h1
  subst hn
  exact h2.to hf
theorem Wd_a {D : va_G} {cy : Nat → ClassId} {ad : Nat → Nat → Nat} {M : Mem} {H : Heap} {ws : va_W} (hP : va_P D vwCl ws H) (k : Nat) {a t i : Nat} {cA : ClassId} {x : vp_A} (hk : ws[k]? = some (a, .inl (cA, x))) (e : vp_cell cA x = arc cy ad M t i) : H[a]? = some (arc cy ad M t i) := by
  have h : H[a]? = some (vp_cell cA x) := hP k _ hk
  rw [h, e]
def rwM : Nat → Int32 := upd (upd (upd (upd (upd (upd (fun _ => 0) (0 : Int32).toNatClampNeg (-1 : Int32)) (1 : Int32).toNatClampNeg (-1 : Int32)) (2 : Int32).toNatClampNeg (-1 : Int32)) (3 : Int32).toNatClampNeg (-1 : Int32)) (4 : Int32).toNatClampNeg (-1 : Int32)) (5 : Int32).toNatClampNeg (-1 : Int32)
def MC0 : Mem := (fun f _ j => if f = 3500 then rwM j else 0, fun _ _ _ => 0, fun _ _ _ => none)
def MM0 : Mem := (fun f _ j => if f = 8900 then rwM j else 0, fun _ _ _ => 0, fun _ _ _ => none)
def adC0 (h0 : Nat) (u : Nat → Nat) (t i : Nat) : Nat := match t with
  | 0 => u 30
  | 1 => u 25
  | 2 => u 4
  | 3 => u 12
  | 5 => u 0
  | 6 => u 32
  | 7 => u 21
  | 9 => u 8
  | 10 => (match i with | 0 => u 13 | 1 => u 15 | _ => u 22)
  | 11 => h0
  | 20 => u 31
  | 21 => u 26
  | 22 => u 27
  | 23 => u 28
  | 24 => u 29
  | 25 => u 5
  | 26 => u 6
  | 27 => u 7
  | 28 => u 17
  | 29 => u 18
  | 30 => u 19
  | 31 => u 20
  | 32 => u 1
  | 33 => u 2
  | 34 => u 3
  | 35 => u 33
  | 36 => u 34
  | 37 => u 35
  | 38 => u 36
  | 39 => u 24
  | 41 => u 9
  | 42 => u 10
  | 43 => u 11
  | 44 => (match i with | 0 => u 14 | 1 => u 16 | _ => u 23)
  | _ => 0
def psC (t i : Nat) : Nat := match t with
  | 0 => 31
  | 1 => 26
  | 2 => 5
  | 3 => 13
  | 5 => 1
  | 6 => 33
  | 7 => 22
  | 9 => 9
  | 10 => (match i with | 0 => 14 | 1 => 16 | _ => 23)
  | 11 => 0
  | 20 => 32
  | 21 => 27
  | 22 => 28
  | 23 => 29
  | 24 => 30
  | 25 => 6
  | 26 => 7
  | 27 => 8
  | 28 => 18
  | 29 => 19
  | 30 => 20
  | 31 => 21
  | 32 => 2
  | 33 => 3
  | 34 => 4
  | 35 => 34
  | 36 => 35
  | 37 => 36
  | 38 => 37
  | 39 => 25
  | 41 => 10
  | 42 => 11
  | 43 => 12
  | 44 => (match i with | 0 => 15 | 1 => 17 | _ => 24)
  | _ => 0
def adM0 (h0 : Nat) (u : Nat → Nat) (t i : Nat) : Nat := match t with
  | 12 => h0
  | 50 => u 0
  | 51 => u 1
  | 52 => u 2
  | 53 => u 3
  | 54 => u 4
  | 55 => u 5
  | 56 => u 6
  | 57 => u 7
  | 58 => u 8
  | 59 => u 9
  | 60 => u 10
  | 61 => u 11
  | 62 => u 12
  | 63 => u 13
  | 64 => u 14
  | 65 => u 15
  | 66 => u 16
  | 67 => u 17
  | 68 => u 18
  | 69 => u 19
  | 70 => u 20
  | 71 => u 21
  | 72 => u 22
  | 73 => u 23
  | 74 => u 24
  | 75 => u 25
  | 76 => u 26
  | 77 => u 27
  | 78 => u 28
  | 79 => u 29
  | 80 => u 30
  | 81 => u 31
  | 82 => u 32
  | 83 => u 33
  | 84 => u 34
  | 85 => u 35
  | 86 => u 36
  | 87 => u 37
  | 88 => u 38
  | 89 => u 39
  | 90 => u 40
  | 91 => u 41
  | 92 => u 42
  | _ => 0
def psM (t i : Nat) : Nat := match t with
  | 12 => 0
  | 50 => 1
  | 51 => 2
  | 52 => 3
  | 53 => 4
  | 54 => 5
  | 55 => 6
  | 56 => 7
  | 57 => 8
  | 58 => 9
  | 59 => 10
  | 60 => 11
  | 61 => 12
  | 62 => 13
  | 63 => 14
  | 64 => 15
  | 65 => 16
  | 66 => 17
  | 67 => 18
  | 68 => 19
  | 69 => 20
  | 70 => 21
  | 71 => 22
  | 72 => 23
  | 73 => 24
  | 74 => 25
  | 75 => 26
  | 76 => 27
  | 77 => 28
  | 78 => 29
  | 79 => 30
  | 80 => 31
  | 81 => 32
  | 82 => 33
  | 83 => 34
  | 84 => 35
  | 85 => 36
  | 86 => 37
  | 87 => 38
  | 88 => 39
  | 89 => 40
  | 90 => 41
  | 91 => 42
  | 92 => 43
  | _ => 0
theorem cnC_b {t i : Nat} (h : i < cnC 0 0 t) : t < 45 ∧ i < 3 := by
  unfold cnC at h
  repeat' split at h
  all_goals omega
theorem cnM_b {t i : Nat} (h : i < cnM t) : (t = 12 ∨ (50 ≤ t ∧ t < 93)) ∧ i = 0 := by
  unfold cnM at h
  repeat' split at h
  all_goals omega
theorem psC_j : ∀ p, p < 135 → ∀ q, q < 135 → (p % 3 < cnC 0 0 (p / 3) ∧ q % 3 < cnC 0 0 (q / 3) ∧ psC (p / 3) (p % 3) = psC (q / 3) (q % 3)) → p = q := by decide +kernel
theorem psC_i (t : Nat) (ht : t < 45) (i : Nat) (hi : i < 3) (t' : Nat) (ht' : t' < 45) (i' : Nat) (hi' : i' < 3) (h : i < cnC 0 0 t ∧ i' < cnC 0 0 t' ∧ psC t i = psC t' i') : t = t' ∧ i = i' := by
  have e := psC_j (3 * t + i) (by omega) (3 * t' + i') (by omega)
  rw [show (3 * t + i) % 3 = i by omega, show (3 * t + i) / 3 = t by omega, show (3 * t' + i') % 3 = i' by omega, show (3 * t' + i') / 3 = t' by omega] at e
  have := e h
  omega
theorem psC_l : ∀ t, t < 45 → ∀ i, i < 3 → i < cnC 0 0 t → psC t i < 38 := by decide +kernel
theorem psM_i : ∀ t, t < 93 → ∀ t', t' < 93 → 0 < cnM t → 0 < cnM t' → psM t 0 = psM t' 0 → t = t' := by decide +kernel
theorem psM_l : ∀ t, t < 93 → 0 < cnM t → psM t 0 < 44 := by decide +kernel
set_option maxRecDepth 20000 in
set_option maxHeartbeats 4000000 in
theorem celC {D : va_G} {cy : Nat → ClassId} {h0 : Nat} {u : Nat → Nat} {H : Heap} {ws : va_W} (hws : ws = res_X11 cy h0 u) (hP : va_P D vwCl ws H) (t i : Nat) (hi : i < cnC 0 0 t) : (t < 13 → t_OB (adC0 h0 u t i) (D.1 t) (nF t) (D.2 t) H (fun k => fvk (adC0 h0 u) MC0 t i k (oK t k))) ∧ (20 ≤ t → H[adC0 h0 u t i]? = some (arc cy (adC0 h0 u) MC0 t i)) ∧ ∃ e, ws[psC t i]? = some (adC0 h0 u t i, e) := by
  subst hws
  have hb := cnC_b hi
  rcases (show t = 0 ∨ t = 1 ∨ t = 2 ∨ t = 3 ∨ t = 4 ∨ t = 5 ∨ t = 6 ∨ t = 7 ∨ t = 8 ∨ t = 9 ∨ t = 10 ∨ t = 11 ∨ t = 12 ∨ t = 13 ∨ t = 14 ∨ t = 15 ∨ t = 16 ∨ t = 17 ∨ t = 18 ∨ t = 19 ∨ t = 20 ∨ t = 21 ∨ t = 22 ∨ t = 23 ∨ t = 24 ∨ t = 25 ∨ t = 26 ∨ t = 27 ∨ t = 28 ∨ t = 29 ∨ t = 30 ∨ t = 31 ∨ t = 32 ∨ t = 33 ∨ t = 34 ∨ t = 35 ∨ t = 36 ∨ t = 37 ∨ t = 38 ∨ t = 39 ∨ t = 40 ∨ t = 41 ∨ t = 42 ∨ t = 43 ∨ t = 44 by omega) with rfl | rfl | rfl | rfl | rfl | rfl | rfl | rfl | rfl | rfl | rfl | rfl | rfl | rfl | rfl | rfl | rfl | rfl | rfl | rfl | rfl | rfl | rfl | rfl | rfl | rfl | rfl | rfl | rfl | rfl | rfl | rfl | rfl | rfl | rfl | rfl | rfl | rfl | rfl | rfl | rfl | rfl | rfl | rfl | rfl
  · obtain rfl : i = 0 := Nat.lt_one_iff.mp hi
    refine ⟨fun _ => Wd_o hP 31 rfl rfl rfl (fun j hj => ?_), fun h => absurd h (by decide), _, rfl⟩
    replace hj : j < 5 := hj
    rcases (show j = 0 ∨ j = 1 ∨ j = 2 ∨ j = 3 ∨ j = 4 by omega) with rfl | rfl | rfl | rfl | rfl <;> rfl
  · obtain rfl : i = 0 := Nat.lt_one_iff.mp hi
    refine ⟨fun _ => Wd_o hP 26 rfl rfl rfl (fun j hj => ?_), fun h => absurd h (by decide), _, rfl⟩
    replace hj : j < 8 := hj
    rcases (show j = 0 ∨ j = 1 ∨ j = 2 ∨ j = 3 ∨ j = 4 ∨ j = 5 ∨ j = 6 ∨ j = 7 by omega) with rfl | rfl | rfl | rfl | rfl | rfl | rfl | rfl <;> rfl
  · obtain rfl : i = 0 := Nat.lt_one_iff.mp hi
    refine ⟨fun _ => Wd_o hP 5 rfl rfl rfl (fun j hj => ?_), fun h => absurd h (by decide), _, rfl⟩
    replace hj : j < 5 := hj
    rcases (show j = 0 ∨ j = 1 ∨ j = 2 ∨ j = 3 ∨ j = 4 by omega) with rfl | rfl | rfl | rfl | rfl <;> rfl
  · obtain rfl : i = 0 := Nat.lt_one_iff.mp hi
    refine ⟨fun _ => Wd_o hP 13 rfl rfl rfl (fun j hj => ?_), fun h => absurd h (by decide), _, rfl⟩
    replace hj : j < 10 := hj
    rcases (show j = 0 ∨ j = 1 ∨ j = 2 ∨ j = 3 ∨ j = 4 ∨ j = 5 ∨ j = 6 ∨ j = 7 ∨ j = 8 ∨ j = 9 by omega) with rfl | rfl | rfl | rfl | rfl | rfl | rfl | rfl | rfl | rfl <;> rfl
  · exact absurd hi (Nat.not_lt_zero i)
  · obtain rfl : i = 0 := Nat.lt_one_iff.mp hi
    refine ⟨fun _ => Wd_o hP 1 rfl rfl rfl (fun j hj => ?_), fun h => absurd h (by decide), _, rfl⟩
    replace hj : j < 7 := hj
    rcases (show j = 0 ∨ j = 1 ∨ j = 2 ∨ j = 3 ∨ j = 4 ∨ j = 5 ∨ j = 6 by omega) with rfl | rfl | rfl | rfl | rfl | rfl | rfl <;> rfl
  · obtain rfl : i = 0 := Nat.lt_one_iff.mp hi
    refine ⟨fun _ => Wd_o hP 33 rfl rfl rfl (fun j hj => ?_), fun h => absurd h (by decide), _, rfl⟩
    replace hj : j < 4 := hj
    rcases (show j = 0 ∨ j = 1 ∨ j = 2 ∨ j = 3 by omega) with rfl | rfl | rfl | rfl <;> rfl
  · obtain rfl : i = 0 := Nat.lt_one_iff.mp hi
    refine ⟨fun _ => Wd_o hP 22 rfl rfl rfl (fun j hj => ?_), fun h => absurd h (by decide), _, rfl⟩
    replace hj : j < 5 := hj
    rcases (show j = 0 ∨ j = 1 ∨ j = 2 ∨ j = 3 ∨ j = 4 by omega) with rfl | rfl | rfl | rfl | rfl <;> rfl
  · exact absurd hi (Nat.not_lt_zero i)
  · obtain rfl : i = 0 := Nat.lt_one_iff.mp hi
    refine ⟨fun _ => Wd_o hP 9 rfl rfl rfl (fun j hj => ?_), fun h => absurd h (by decide), _, rfl⟩
    replace hj : j < 4 := hj
    rcases (show j = 0 ∨ j = 1 ∨ j = 2 ∨ j = 3 by omega) with rfl | rfl | rfl | rfl <;> rfl
  · rcases (show i = 0 ∨ i = 1 ∨ i = 2 by omega) with rfl | rfl | rfl
    · refine ⟨fun _ => Wd_o hP 14 rfl rfl rfl (fun j hj => ?_), fun h => absurd h (by decide), _, rfl⟩
      replace hj : j < 2 := hj
      rcases (show j = 0 ∨ j = 1 by omega) with rfl | rfl <;> rfl
    · refine ⟨fun _ => Wd_o hP 16 rfl rfl rfl (fun j hj => ?_), fun h => absurd h (by decide), _, rfl⟩
      replace hj : j < 2 := hj
      rcases (show j = 0 ∨ j = 1 by omega) with rfl | rfl <;> rfl
    · refine ⟨fun _ => Wd_o hP 23 rfl rfl rfl (fun j hj => ?_), fun h => absurd h (by decide), _, rfl⟩
      replace hj : j < 2 := hj
      rcases (show j = 0 ∨ j = 1 by omega) with rfl | rfl <;> rfl
  · obtain rfl : i = 0 := Nat.lt_one_iff.mp hi
    refine ⟨fun _ => Wd_o hP 0 rfl rfl rfl (fun j hj => ?_), fun h => absurd h (by decide), _, rfl⟩
    replace hj : j < 8 := hj
    rcases (show j = 0 ∨ j = 1 ∨ j = 2 ∨ j = 3 ∨ j = 4 ∨ j = 5 ∨ j = 6 ∨ j = 7 by omega) with rfl | rfl | rfl | rfl | rfl | rfl | rfl | rfl <;> rfl
  · exact absurd hi (Nat.not_lt_zero i)
  · exact absurd hi (Nat.not_lt_zero i)
  · exact absurd hi (Nat.not_lt_zero i)
  · exact absurd hi (Nat.not_lt_zero i)
  · exact absurd hi (Nat.not_lt_zero i)
  · exact absurd hi (Nat.not_lt_zero i)
  · exact absurd hi (Nat.not_lt_zero i)
  · exact absurd hi (Nat.not_lt_zero i)
  · obtain rfl : i = 0 := Nat.lt_one_iff.mp hi
    exact ⟨fun h => absurd h (by decide), fun _ => Wd_a hP 32 rfl rfl, _, rfl⟩
  · obtain rfl : i = 0 := Nat.lt_one_iff.mp hi
    exact ⟨fun h => absurd h (by decide), fun _ => Wd_a hP 27 rfl rfl, _, rfl⟩
  · obtain rfl : i = 0 := Nat.lt_one_iff.mp hi
    exact ⟨fun h => absurd h (by decide), fun _ => Wd_a hP 28 rfl rfl, _, rfl⟩
  · obtain rfl : i = 0 := Nat.lt_one_iff.mp hi
    exact ⟨fun h => absurd h (by decide), fun _ => Wd_a hP 29 rfl rfl, _, rfl⟩
  · obtain rfl : i = 0 := Nat.lt_one_iff.mp hi
    exact ⟨fun h => absurd h (by decide), fun _ => Wd_a hP 30 rfl rfl, _, rfl⟩
  · obtain rfl : i = 0 := Nat.lt_one_iff.mp hi
    exact ⟨fun h => absurd h (by decide), fun _ => Wd_a hP 6 rfl rfl, _, rfl⟩
  · obtain rfl : i = 0 := Nat.lt_one_iff.mp hi
    exact ⟨fun h => absurd h (by decide), fun _ => Wd_a hP 7 rfl rfl, _, rfl⟩
  · obtain rfl : i = 0 := Nat.lt_one_iff.mp hi
    exact ⟨fun h => absurd h (by decide), fun _ => Wd_a hP 8 rfl rfl, _, rfl⟩
  · obtain rfl : i = 0 := Nat.lt_one_iff.mp hi
    exact ⟨fun h => absurd h (by decide), fun _ => Wd_a hP 18 rfl rfl, _, rfl⟩
  · obtain rfl : i = 0 := Nat.lt_one_iff.mp hi
    exact ⟨fun h => absurd h (by decide), fun _ => Wd_a hP 19 rfl rfl, _, rfl⟩
  · obtain rfl : i = 0 := Nat.lt_one_iff.mp hi
    exact ⟨fun h => absurd h (by decide), fun _ => Wd_a hP 20 rfl rfl, _, rfl⟩
  · obtain rfl : i = 0 := Nat.lt_one_iff.mp hi
    exact ⟨fun h => absurd h (by decide), fun _ => Wd_a hP 21 rfl rfl, _, rfl⟩
  · obtain rfl : i = 0 := Nat.lt_one_iff.mp hi
    exact ⟨fun h => absurd h (by decide), fun _ => Wd_a hP 2 rfl rfl, _, rfl⟩
  · obtain rfl : i = 0 := Nat.lt_one_iff.mp hi
    exact ⟨fun h => absurd h (by decide), fun _ => Wd_a hP 3 rfl rfl, _, rfl⟩
  · obtain rfl : i = 0 := Nat.lt_one_iff.mp hi
    exact ⟨fun h => absurd h (by decide), fun _ => Wd_a hP 4 rfl rfl, _, rfl⟩
  · obtain rfl : i = 0 := Nat.lt_one_iff.mp hi
    exact ⟨fun h => absurd h (by decide), fun _ => Wd_a hP 34 rfl rfl, _, rfl⟩
  · obtain rfl : i = 0 := Nat.lt_one_iff.mp hi
    exact ⟨fun h => absurd h (by decide), fun _ => Wd_a hP 35 rfl rfl, _, rfl⟩
  · obtain rfl : i = 0 := Nat.lt_one_iff.mp hi
    exact ⟨fun h => absurd h (by decide), fun _ => Wd_a hP 36 rfl rfl, _, rfl⟩
  · obtain rfl : i = 0 := Nat.lt_one_iff.mp hi
    exact ⟨fun h => absurd h (by decide), fun _ => Wd_a hP 37 rfl rfl, _, rfl⟩
  · obtain rfl : i = 0 := Nat.lt_one_iff.mp hi
    exact ⟨fun h => absurd h (by decide), fun _ => Wd_a hP 25 rfl rfl, _, rfl⟩
  · exact absurd hi (Nat.not_lt_zero i)
  · obtain rfl : i = 0 := Nat.lt_one_iff.mp hi
    exact ⟨fun h => absurd h (by decide), fun _ => Wd_a hP 10 rfl rfl, _, rfl⟩
  · obtain rfl : i = 0 := Nat.lt_one_iff.mp hi
    exact ⟨fun h => absurd h (by decide), fun _ => Wd_a hP 11 rfl rfl, _, rfl⟩
  · obtain rfl : i = 0 := Nat.lt_one_iff.mp hi
    exact ⟨fun h => absurd h (by decide), fun _ => Wd_a hP 12 rfl rfl, _, rfl⟩
  · rcases (show i = 0 ∨ i = 1 ∨ i = 2 by omega) with rfl | rfl | rfl
    · exact ⟨fun h => absurd h (by decide), fun _ => Wd_a hP 15 rfl rfl, _, rfl⟩
    · exact ⟨fun h => absurd h (by decide), fun _ => Wd_a hP 17 rfl rfl, _, rfl⟩
    · exact ⟨fun h => absurd h (by decide), fun _ => Wd_a hP 24 rfl rfl, _, rfl⟩
set_option maxRecDepth 20000 in
set_option maxHeartbeats 4000000 in
theorem celM {D : va_G} {cy : Nat → ClassId} {h0 : Nat} {u : Nat → Nat} {H : Heap} {ws : va_W} (hws : ws = res_X12 cy h0 u) (hP : va_P D vwCl ws H) (t i : Nat) (hi : i < cnM t) : (t < 13 → t_OB (adM0 h0 u t i) (D.1 t) (nF t) (D.2 t) H (fun k => fvk (adM0 h0 u) MM0 t i k (oK t k))) ∧ (20 ≤ t → H[adM0 h0 u t i]? = some (arc cy (adM0 h0 u) MM0 t i)) ∧ ∃ e, ws[psM t i]? = some (adM0 h0 u t i, e) := by
  subst hws
  have hb := cnM_b hi
  rcases (show t = 12 ∨ t = 50 ∨ t = 51 ∨ t = 52 ∨ t = 53 ∨ t = 54 ∨ t = 55 ∨ t = 56 ∨ t = 57 ∨ t = 58 ∨ t = 59 ∨ t = 60 ∨ t = 61 ∨ t = 62 ∨ t = 63 ∨ t = 64 ∨ t = 65 ∨ t = 66 ∨ t = 67 ∨ t = 68 ∨ t = 69 ∨ t = 70 ∨ t = 71 ∨ t = 72 ∨ t = 73 ∨ t = 74 ∨ t = 75 ∨ t = 76 ∨ t = 77 ∨ t = 78 ∨ t = 79 ∨ t = 80 ∨ t = 81 ∨ t = 82 ∨ t = 83 ∨ t = 84 ∨ t = 85 ∨ t = 86 ∨ t = 87 ∨ t = 88 ∨ t = 89 ∨ t = 90 ∨ t = 91 ∨ t = 92 by omega) with rfl | rfl | rfl | rfl | rfl | rfl | rfl | rfl | rfl | rfl | rfl | rfl | rfl | rfl | rfl | rfl | rfl | rfl | rfl | rfl | rfl | rfl | rfl | rfl | rfl | rfl | rfl | rfl | rfl | rfl | rfl | rfl | rfl | rfl | rfl | rfl | rfl | rfl | rfl | rfl | rfl | rfl | rfl | rfl
  · obtain rfl : i = 0 := Nat.lt_one_iff.mp hi
    refine ⟨fun _ => Wd_o hP 0 rfl rfl rfl (fun j hj => ?_), fun h => absurd h (by decide), _, rfl⟩
    replace hj : j < 58 := hj
    rcases (show j = 0 ∨ j = 1 ∨ j = 2 ∨ j = 3 ∨ j = 4 ∨ j = 5 ∨ j = 6 ∨ j = 7 ∨ j = 8 ∨ j = 9 ∨ j = 10 ∨ j = 11 ∨ j = 12 ∨ j = 13 ∨ j = 14 ∨ j = 15 ∨ j = 16 ∨ j = 17 ∨ j = 18 ∨ j = 19 ∨ j = 20 ∨ j = 21 ∨ j = 22 ∨ j = 23 ∨ j = 24 ∨ j = 25 ∨ j = 26 ∨ j = 27 ∨ j = 28 ∨ j = 29 ∨ j = 30 ∨ j = 31 ∨ j = 32 ∨ j = 33 ∨ j = 34 ∨ j = 35 ∨ j = 36 ∨ j = 37 ∨ j = 38 ∨ j = 39 ∨ j = 40 ∨ j = 41 ∨ j = 42 ∨ j = 43 ∨ j = 44 ∨ j = 45 ∨ j = 46 ∨ j = 47 ∨ j = 48 ∨ j = 49 ∨ j = 50 ∨ j = 51 ∨ j = 52 ∨ j = 53 ∨ j = 54 ∨ j = 55 ∨ j = 56 ∨ j = 57 by omega) with rfl | rfl | rfl | rfl | rfl | rfl | rfl | rfl | rfl | rfl | rfl | rfl | rfl | rfl | rfl | rfl | rfl | rfl | rfl | rfl | rfl | rfl | rfl | rfl | rfl | rfl | rfl | rfl | rfl | rfl | rfl | rfl | rfl | rfl | rfl | rfl | rfl | rfl | rfl | rfl | rfl | rfl | rfl | rfl | rfl | rfl | rfl | rfl | rfl | rfl | rfl | rfl | rfl | rfl | rfl | rfl | rfl | rfl <;> rfl
  · obtain rfl : i = 0 := Nat.lt_one_iff.mp hi
    exact ⟨fun h => absurd h (by decide), fun _ => Wd_a hP 1 rfl rfl, _, rfl⟩
  · obtain rfl : i = 0 := Nat.lt_one_iff.mp hi
    exact ⟨fun h => absurd h (by decide), fun _ => Wd_a hP 2 rfl rfl, _, rfl⟩
  · obtain rfl : i = 0 := Nat.lt_one_iff.mp hi
    exact ⟨fun h => absurd h (by decide), fun _ => Wd_a hP 3 rfl rfl, _, rfl⟩
  · obtain rfl : i = 0 := Nat.lt_one_iff.mp hi
    exact ⟨fun h => absurd h (by decide), fun _ => Wd_a hP 4 rfl rfl, _, rfl⟩
  · obtain rfl : i = 0 := Nat.lt_one_iff.mp hi
    exact ⟨fun h => absurd h (by decide), fun _ => Wd_a hP 5 rfl rfl, _, rfl⟩
  · obtain rfl : i = 0 := Nat.lt_one_iff.mp hi
    exact ⟨fun h => absurd h (by decide), fun _ => Wd_a hP 6 rfl rfl, _, rfl⟩
  · obtain rfl : i = 0 := Nat.lt_one_iff.mp hi
    exact ⟨fun h => absurd h (by decide), fun _ => Wd_a hP 7 rfl rfl, _, rfl⟩
  · obtain rfl : i = 0 := Nat.lt_one_iff.mp hi
    exact ⟨fun h => absurd h (by decide), fun _ => Wd_a hP 8 rfl rfl, _, rfl⟩
  · obtain rfl : i = 0 := Nat.lt_one_iff.mp hi
    exact ⟨fun h => absurd h (by decide), fun _ => Wd_a hP 9 rfl rfl, _, rfl⟩
  · obtain rfl : i = 0 := Nat.lt_one_iff.mp hi
    exact ⟨fun h => absurd h (by decide), fun _ => Wd_a hP 10 rfl rfl, _, rfl⟩
  · obtain rfl : i = 0 := Nat.lt_one_iff.mp hi
    exact ⟨fun h => absurd h (by decide), fun _ => Wd_a hP 11 rfl rfl, _, rfl⟩
  · obtain rfl : i = 0 := Nat.lt_one_iff.mp hi
    exact ⟨fun h => absurd h (by decide), fun _ => Wd_a hP 12 rfl rfl, _, rfl⟩
  · obtain rfl : i = 0 := Nat.lt_one_iff.mp hi
    exact ⟨fun h => absurd h (by decide), fun _ => Wd_a hP 13 rfl rfl, _, rfl⟩
  · obtain rfl : i = 0 := Nat.lt_one_iff.mp hi
    exact ⟨fun h => absurd h (by decide), fun _ => Wd_a hP 14 rfl rfl, _, rfl⟩
  · obtain rfl : i = 0 := Nat.lt_one_iff.mp hi
    exact ⟨fun h => absurd h (by decide), fun _ => Wd_a hP 15 rfl rfl, _, rfl⟩
  · obtain rfl : i = 0 := Nat.lt_one_iff.mp hi
    exact ⟨fun h => absurd h (by decide), fun _ => Wd_a hP 16 rfl rfl, _, rfl⟩
  · obtain rfl : i = 0 := Nat.lt_one_iff.mp hi
    exact ⟨fun h => absurd h (by decide), fun _ => Wd_a hP 17 rfl rfl, _, rfl⟩
  · obtain rfl : i = 0 := Nat.lt_one_iff.mp hi
    exact ⟨fun h => absurd h (by decide), fun _ => Wd_a hP 18 rfl rfl, _, rfl⟩
  · obtain rfl : i = 0 := Nat.lt_one_iff.mp hi
    exact ⟨fun h => absurd h (by decide), fun _ => Wd_a hP 19 rfl rfl, _, rfl⟩
  · obtain rfl : i = 0 := Nat.lt_one_iff.mp hi
    exact ⟨fun h => absurd h (by decide), fun _ => Wd_a hP 20 rfl rfl, _, rfl⟩
  · obtain rfl : i = 0 := Nat.lt_one_iff.mp hi
    exact ⟨fun h => absurd h (by decide), fun _ => Wd_a hP 21 rfl rfl, _, rfl⟩
  · obtain rfl : i = 0 := Nat.lt_one_iff.mp hi
    exact ⟨fun h => absurd h (by decide), fun _ => Wd_a hP 22 rfl rfl, _, rfl⟩
  · obtain rfl : i = 0 := Nat.lt_one_iff.mp hi
    exact ⟨fun h => absurd h (by decide), fun _ => Wd_a hP 23 rfl rfl, _, rfl⟩
  · obtain rfl : i = 0 := Nat.lt_one_iff.mp hi
    exact ⟨fun h => absurd h (by decide), fun _ => Wd_a hP 24 rfl rfl, _, rfl⟩
  · obtain rfl : i = 0 := Nat.lt_one_iff.mp hi
    exact ⟨fun h => absurd h (by decide), fun _ => Wd_a hP 25 rfl rfl, _, rfl⟩
  · obtain rfl : i = 0 := Nat.lt_one_iff.mp hi
    exact ⟨fun h => absurd h (by decide), fun _ => Wd_a hP 26 rfl rfl, _, rfl⟩
  · obtain rfl : i = 0 := Nat.lt_one_iff.mp hi
    exact ⟨fun h => absurd h (by decide), fun _ => Wd_a hP 27 rfl rfl, _, rfl⟩
  · obtain rfl : i = 0 := Nat.lt_one_iff.mp hi
    exact ⟨fun h => absurd h (by decide), fun _ => Wd_a hP 28 rfl rfl, _, rfl⟩
  · obtain rfl : i = 0 := Nat.lt_one_iff.mp hi
    exact ⟨fun h => absurd h (by decide), fun _ => Wd_a hP 29 rfl rfl, _, rfl⟩
  · obtain rfl : i = 0 := Nat.lt_one_iff.mp hi
    exact ⟨fun h => absurd h (by decide), fun _ => Wd_a hP 30 rfl rfl, _, rfl⟩
  · obtain rfl : i = 0 := Nat.lt_one_iff.mp hi
    exact ⟨fun h => absurd h (by decide), fun _ => Wd_a hP 31 rfl rfl, _, rfl⟩
  · obtain rfl : i = 0 := Nat.lt_one_iff.mp hi
    exact ⟨fun h => absurd h (by decide), fun _ => Wd_a hP 32 rfl rfl, _, rfl⟩
  · obtain rfl : i = 0 := Nat.lt_one_iff.mp hi
    exact ⟨fun h => absurd h (by decide), fun _ => Wd_a hP 33 rfl rfl, _, rfl⟩
  · obtain rfl : i = 0 := Nat.lt_one_iff.mp hi
    exact ⟨fun h => absurd h (by decide), fun _ => Wd_a hP 34 rfl rfl, _, rfl⟩
  · obtain rfl : i = 0 := Nat.lt_one_iff.mp hi
    exact ⟨fun h => absurd h (by decide), fun _ => Wd_a hP 35 rfl rfl, _, rfl⟩
  · obtain rfl : i = 0 := Nat.lt_one_iff.mp hi
    exact ⟨fun h => absurd h (by decide), fun _ => Wd_a hP 36 rfl rfl, _, rfl⟩
  · obtain rfl : i = 0 := Nat.lt_one_iff.mp hi
    exact ⟨fun h => absurd h (by decide), fun _ => Wd_a hP 37 rfl rfl, _, rfl⟩
  · obtain rfl : i = 0 := Nat.lt_one_iff.mp hi
    exact ⟨fun h => absurd h (by decide), fun _ => Wd_a hP 38 rfl rfl, _, rfl⟩
  · obtain rfl : i = 0 := Nat.lt_one_iff.mp hi
    exact ⟨fun h => absurd h (by decide), fun _ => Wd_a hP 39 rfl rfl, _, rfl⟩
  · obtain rfl : i = 0 := Nat.lt_one_iff.mp hi
    exact ⟨fun h => absurd h (by decide), fun _ => Wd_a hP 40 rfl rfl, _, rfl⟩
  · obtain rfl : i = 0 := Nat.lt_one_iff.mp hi
    exact ⟨fun h => absurd h (by decide), fun _ => Wd_a hP 41 rfl rfl, _, rfl⟩
  · obtain rfl : i = 0 := Nat.lt_one_iff.mp hi
    exact ⟨fun h => absurd h (by decide), fun _ => Wd_a hP 42 rfl rfl, _, rfl⟩
  · obtain rfl : i = 0 := Nat.lt_one_iff.mp hi
    exact ⟨fun h => absurd h (by decide), fun _ => Wd_a hP 43 rfl rfl, _, rfl⟩
