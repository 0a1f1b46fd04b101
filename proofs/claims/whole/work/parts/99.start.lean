/-! the start, and the claim -/
theorem wdC {D : va_G} {cy : Nat → ClassId} {A : Nat → Prop} {h0 : Nat} {u : Nat → Nat} {H : Heap} {ws : va_W} (hws : ws = res_X11 cy h0 u) (hP : va_P D vwCl ws H) (hD : va_D A ws) : Wd D cy A (cnC 0 0) (adC0 h0 u) MC0 H := by
  refine ⟨fun t i ht hi => (celC hws hP t i hi).1 ht, fun t i ht hi => (celC hws hP t i hi).2.1 ht, fun t i t' i' hi hi' e => ?_, fun t i hi => ?_, fun q hq i j o h => absurd (show (none : Option Nat) = some o from h) (by simp)⟩
  · obtain ⟨e1, k1⟩ := (celC hws hP t i hi).2.2
    obtain ⟨e2, k2⟩ := (celC hws hP t' i' hi').2.2
    exact psC_i t (cnC_b hi).1 i (cnC_b hi).2 t' (cnC_b hi').1 i' (cnC_b hi').2 ⟨hi, hi', hD.1 _ _ _ _ k1 k2 e⟩
  · obtain ⟨e1, k1⟩ := (celC hws hP t i hi).2.2
    exact hD.2 _ _ k1
theorem wdM {D : va_G} {cy : Nat → ClassId} {A : Nat → Prop} {h0 : Nat} {u : Nat → Nat} {H : Heap} {ws : va_W} (hws : ws = res_X12 cy h0 u) (hP : va_P D vwCl ws H) (hD : va_D A ws) : Wd D cy (AM (adM0 h0 u)) cnM (adM0 h0 u) MM0 H := by
  refine ⟨fun t i ht hi => (celM hws hP t i hi).1 ht, fun t i ht hi => (celM hws hP t i hi).2.1 ht, fun t i t' i' hi hi' e => ?_, fun t i hi => ⟨t, i, hi, ?_, rfl⟩, fun q hq i j o h => absurd (show (none : Option Nat) = some o from h) (by simp)⟩
  · obtain ⟨e1, k1⟩ := (celM hws hP t i hi).2.2
    obtain ⟨e2, k2⟩ := (celM hws hP t' i' hi').2.2
    have b1 := cnM_b hi
    have b2 := cnM_b hi'
    obtain ⟨b1, rfl⟩ := b1
    obtain ⟨b2, rfl⟩ := b2
    exact ⟨psM_i t (by omega) t' (by omega) hi hi' (hD.1 _ _ _ _ k1 k2 e), rfl⟩
  · have := (cnM_b hi).1
    omega
theorem n0_i : ∀ (x : Int32), x = 0 → x = nI x.toNatClampNeg ∧ ∀ n, x.toNatClampNeg ≤ n := by
  rintro x rfl
  exact ⟨by decide, fun n => by rw [cl_0]; exact Nat.zero_le _⟩
theorem rwM_q : ∀ q, q < 6 → rwM q = -1 := by decide +kernel
theorem st_b1 : f_b1 MC0 MM0 0 0 := ⟨Nat.zero_le _, Nat.zero_le _⟩
theorem st_c1 : f_c1 MC0 MM0 0 0 := ⟨rfl, rfl⟩
theorem st_c2 : f_c2 MC0 MM0 0 0 := ⟨rfl, rfl⟩
theorem st_r1 : f_r1 MC0 MM0 0 0 := fun s hs => absurd hs (Nat.not_lt_zero s)
theorem st_r2 : f_r2 MC0 MM0 0 0 := fun s hs => absurd hs (Nat.not_lt_zero s)
theorem st_s0 : f_s0 MC0 MM0 0 0 := fun s hs => absurd hs (Nat.not_lt_zero s)
theorem st_sK : f_sK MC0 MM0 0 0 := fun s hs => absurd hs (Nat.not_lt_zero s)
theorem st_sM : f_sM MC0 MM0 0 0 := fun s hs => absurd hs (Nat.not_lt_zero s)
theorem st_sA : f_sA MC0 MM0 0 0 := fun s hs => absurd hs (Nat.not_lt_zero s)
theorem st_sB : f_sB MC0 MM0 0 0 := fun s hs => absurd hs (Nat.not_lt_zero s)
theorem st_sI : f_sI MC0 MM0 0 0 := fun s hs => absurd hs (Nat.not_lt_zero s)
theorem st_sW : f_sW MC0 MM0 0 0 := fun s hs => absurd hs (Nat.not_lt_zero s)
theorem st_sP : f_sP MC0 MM0 0 0 := fun s hs => absurd hs (Nat.not_lt_zero s)
theorem st_sH : f_sH MC0 MM0 0 0 := fun s hs => absurd hs (Nat.not_lt_zero s)
theorem st_sT : f_sT MC0 MM0 0 0 := fun s hs => absurd hs (Nat.not_lt_zero s)
theorem st_vK : f_vK MC0 MM0 0 0 := fun s hs => absurd hs (Nat.not_lt_zero s)
theorem st_vB : f_vB MC0 MM0 0 0 := fun s hs => absurd hs (Nat.not_lt_zero s)
theorem st_n1 : f_n1 MC0 MM0 0 0 := ⟨(n0_i _ rfl).1, (n0_i _ rfl).2 _⟩
theorem st_n2 : f_n2 MC0 MM0 0 0 := rfl
theorem st_vM : f_vM MC0 MM0 0 0 := fun s hs => absurd hs (Nat.not_lt_zero s)
theorem st_vT : f_vT MC0 MM0 0 0 := fun s hs => absurd hs (Nat.not_lt_zero s)
theorem st_tB : f_tB MC0 MM0 0 0 := fun k hk => (hB_0 k).trans (decide_eq_false (fun z => absurd z.1 (Nat.not_lt_zero k))).symm
theorem st_vJ : f_vJ MC0 MM0 0 0 := fun s hs => absurd hs (Nat.not_lt_zero s)
theorem st_vH : f_vH MC0 MM0 0 0 := fun s hs => absurd hs (Nat.not_lt_zero s)
theorem st_l0 : f_l0 MC0 MM0 0 0 := fun s hs => absurd hs (Nat.not_lt_zero s)
theorem st_l1 : f_l1 MC0 MM0 0 0 := fun s hs => absurd hs (Nat.not_lt_zero s)
theorem st_l3 : f_l3 MC0 MM0 0 0 := fun s hs => absurd hs (Nat.not_lt_zero s)
theorem st_l4 : f_l4 MC0 MM0 0 0 := fun s hs => absurd hs (Nat.not_lt_zero s)
theorem st_l5 : f_l5 MC0 MM0 0 0 := fun s hs => absurd hs (Nat.not_lt_zero s)
theorem st_vL : f_vL MC0 MM0 0 0 := fun s hs => absurd hs (Nat.not_lt_zero s)
theorem st_vW : f_vW MC0 MM0 0 0 := fun s hs => absurd hs (Nat.not_lt_zero s)
theorem st_vE : f_vE MC0 MM0 0 0 := fun s hs => absurd hs (Nat.not_lt_zero s)
theorem st_vD : f_vD MC0 MM0 0 0 := fun l s hl => absurd hl (Nat.not_lt_zero l)
theorem st_h1 : f_h1 MC0 MM0 0 0 := fun s hs => absurd hs (Nat.not_lt_zero s)
theorem st_h2 : f_h2 MC0 MM0 0 0 := fun l s hl => absurd hl (Nat.not_lt_zero l)
theorem st_h3 : f_h3 MC0 MM0 0 0 := fun s hs => absurd hs (Nat.not_lt_zero s)
theorem st_h4 : f_h4 MC0 MM0 0 0 := fun l s hl => absurd hl (Nat.not_lt_zero l)
theorem st_h5 : f_h5 MC0 MM0 0 0 := fun s hs => absurd hs (Nat.not_lt_zero s)
theorem st_z1 : f_z1 MC0 MM0 0 0 := fun s _ => ⟨rfl, rfl, rfl⟩
theorem st_z2 : f_z2 MC0 MM0 0 0 := fun l _ => rfl
theorem st_z3 : f_z3 MC0 MM0 0 0 := fun j _ => rfl
theorem st_e1 : f_e1 MC0 MM0 0 0 := fun l s hl => absurd hl (Nat.not_lt_zero l)
theorem st_e2 : f_e2 MC0 MM0 0 0 := fun l s hl => absurd hl (Nat.not_lt_zero l)
theorem st_e3 : f_e3 MC0 MM0 0 0 := fun s hs => absurd hs (Nat.not_lt_zero s)
theorem st_o1 : f_o1 MC0 MM0 0 0 := ⟨(n0_i _ rfl).1, (n0_i _ rfl).2 _⟩
theorem st_o2 : f_o2 MC0 MM0 0 0 := rfl
theorem st_o3 : f_o3 MC0 MM0 0 0 := fun c hc => absurd (Nat.lt_of_lt_of_le hc ((n0_i _ rfl).2 0)) (Nat.not_lt_zero c)
theorem st_o4 : f_o4 MC0 MM0 0 0 := fun c hc => absurd (Nat.lt_of_lt_of_le hc ((n0_i _ rfl).2 0)) (Nat.not_lt_zero c)
theorem st_o5 : f_o5 MC0 MM0 0 0 := fun c hc => absurd (Nat.lt_of_lt_of_le hc ((n0_i _ rfl).2 0)) (Nat.not_lt_zero c)
theorem st_o6 : f_o6 MC0 MM0 0 0 := fun c hc => absurd (Nat.lt_of_lt_of_le hc ((n0_i _ rfl).2 0)) (Nat.not_lt_zero c)
theorem st_g1 : f_g1 MC0 MM0 0 0 := ⟨0, 0, Nat.zero_le _, rfl, rfl, rfl, rfl, fun k hk => absurd hk (Nat.not_lt_zero k), fun k hk => absurd hk (Nat.not_lt_zero k)⟩
theorem st_d1 : f_d1 MC0 MM0 0 0 := rfl
theorem st_t1 : f_t1 MC0 MM0 0 0 := ⟨0, Nat.zero_le _, rfl, rfl, fun k hk => absurd hk (Nat.not_lt_zero k)⟩
theorem st_x1 : f_x1 MC0 MM0 0 0 := fun u hu => tx_0 hu
theorem st_a1 : f_a1 MC0 MM0 0 0 := rfl
theorem st_a2 : f_a2 MC0 MM0 0 0 := fun k _ => rfl
theorem st_p1 : f_p1 MC0 MM0 0 0 := fun q hq => Or.inl ⟨rwM_q q hq, rwM_q q hq⟩
theorem st_p2 : f_p2 MC0 MM0 0 0 := fun j _ => rfl
theorem sim_0 : Sim MC0 MM0 0 0 := ⟨st_b1, st_c1, st_c2, st_r1, st_r2, st_s0, st_sK, st_sM, st_sA, st_sB, st_sI, st_sW, st_sP, st_sH, st_sT, st_vK, st_vB, st_n1, st_n2, st_vM, st_vT, st_tB, st_vJ, st_vH, st_l0, st_l1, st_l3, st_l4, st_l5, st_vL, st_vW, st_vE, st_vD, st_h1, st_h2, st_h3, st_h4, st_h5, st_z1, st_z2, st_z3, st_e1, st_e2, st_e3, st_o1, st_o2, st_o3, st_o4, st_o5, st_o6, st_g1, st_d1, st_t1, st_x1, st_a1, st_a2, st_p1, st_p2⟩
set_option maxHeartbeats 4000000 in
set_option maxRecDepth 100000 in
/-- THE LAW, from its entry -/
theorem whole_start {p : Program} {e : Env} {s : State} {m : MethodId} {below : List Frame} {meth : Method} {c : Code} (l : Launch) (hflags : l.flags = flags0) {b L : Nat} {xs : Nat → Int32} (hL : L ≤ 384) (C0 : lw_At p s m meth c b L xs) : W p l e room_1 s m #[Value.ref b] below meth c s.heap [] 0 0 (lw_Z below #[Value.ref b] s) (entryFrame m ([Value.ref b] : List Value).toArray 4) := by
  obtain ⟨hx, hb, hr, hml, hown, hts0, hX, hbl, hlocks, hgv⟩ := id C0
  have hA : ∀ q : Nat, s.heap.size ≤ q → (fun q : Nat => s.heap.size ≤ q) q := fun _ h => h
  have hts : ∀ w ∈ lw_tg, w.before #[Value.ref b] s = true := fun w hw => hts0 w (List.mem_filter.mp hw).1
  obtain ⟨K, hZ⟩ := zi_start (A := fun q : Nat => s.heap.size ≤ q) hts0 (flat_of_before _ hgv) (fun a h => Nat.not_le.mpr h)
  obtain ⟨D, cy, hK⟩ := vk_start hts hZ.2.1 hZ.2.2
  have hS : va_S (fun q : Nat => s.heap.size ≤ q) s.heap s.heap [] := va_S.rf
  have hP : va_P D vwCl [] s.heap := fun k q h => by simp at h
  have hD : va_D (fun q : Nat => s.heap.size ≤ q) [] := ⟨fun i j p q h => by simp at h, fun k q h => by simp at h⟩
  have hown : s.vm.findClass RL = some m.cls := hown
  have hl := lv_entry ([.ref b]) (n := 4) (Nat.le_of_ble_eq_true rfl)
  rw [lg_entry_eq]
  generalize (lg_sl ([.ref b]) ++ List.replicate (4 - (lg_sl ([.ref b])).length) Slot.unset).toArray = ls at hl ⊢
  have hl : lv_has ls 4 [(0, .ref b)] := hl
  refine tb_new (fs := [.null, .null, .null, .null, .null, .null, .null, .null]) hx hb hts hown 11 inX11 tyX11 tyX11_ok rfl tw99 tw100 tw77 hK hP hD hS hA (fun j hj => by rcases (show j = 0 ∨ j = 1 ∨ j = 2 ∨ j = 3 ∨ j = 4 ∨ j = 5 ∨ j = 6 ∨ j = 7 by omega) with rfl | rfl | rfl | rfl | rfl | rfl | rfl | rfl <;> rfl) (Nat.le_of_ble_eq_true rfl) (Nat.le_of_ble_eq_true rfl) dL_law_0 (fun q1 H hP hD hS _ hq1 _ => ?_)
  have hP : va_P D vwCl [(q1, .inr (11, [.null, .null, .null, .null, .null, .null, .null, .null]))] H := hP
  have hD : va_D (fun q : Nat => s.heap.size ≤ q) [(q1, .inr (11, [.null, .null, .null, .null, .null, .null, .null, .null]))] := hD
  refine lv_dup hx hb dL_law_3 rfl ?_
  refine tb_cIi ZI_ok hx hb hml hown hts hK hP hD hS hA (fun _ h => h) hZ [] (mX11_init (l := l) (K := K) q1 H.size ZI_ok (hD.2 0 _ rfl) (fun q h => Nat.le_trans hS.1 h)) pmX11_init tw101 ⟨Nat.le_of_ble_eq_true rfl, Nat.le_of_ble_eq_true rfl⟩ rfl rfl 0 rfl [] (wr := []) rfl (by decide) (by decide) rfl hl.1 (Nat.le_of_ble_eq_true rfl) ⟨Nat.le_of_ble_eq_true rfl, Nat.le_of_ble_eq_true rfl⟩ rfl dL_law_4 (fun u1 H1 locs1 hP hD hS _ _ _ => ?_)
  have hP : va_P D vwCl (res_X11 cy q1 u1) H1 := hP
  have hD : va_D (fun q : Nat => s.heap.size ≤ q) (res_X11 cy q1 u1) := hD
  generalize hw1 : res_X11 cy q1 u1 = w1 at hP hD
  refine lv_astore_n (lv' := [(1, .ref q1), (0, .ref b)]) hx hb dL_law_7 rfl hl (by decide) rfl (fun ls hl => ?_)
  refine tb_new (fs := [.int 0, .int 0, .int 0, .null, .null, .null, .null, .null, .null, .null, .null, .null, .int 0, .null, .null, .null, .null, .null, .null, .null, .null, .null, .null, .null, .int 0, .int 0, .null, .null, .null, .null, .null, .null, .null, .int 0, .int 0, .int 0, .int 0, .int 0, .null, .null, .null, .null, .null, .null, .null, .int 0, .int 0, .null, .null, .null, .null, .int 0, .null, .int 0, .null, .null, .null, .null]) hx hb hts hown 12 inX12 tyX12 tyX12_ok rfl tw1215 tw1216 tw88 hK hP hD hS hA (fun j hj => by rcases (show j = 0 ∨ j = 1 ∨ j = 2 ∨ j = 3 ∨ j = 4 ∨ j = 5 ∨ j = 6 ∨ j = 7 ∨ j = 8 ∨ j = 9 ∨ j = 10 ∨ j = 11 ∨ j = 12 ∨ j = 13 ∨ j = 14 ∨ j = 15 ∨ j = 16 ∨ j = 17 ∨ j = 18 ∨ j = 19 ∨ j = 20 ∨ j = 21 ∨ j = 22 ∨ j = 23 ∨ j = 24 ∨ j = 25 ∨ j = 26 ∨ j = 27 ∨ j = 28 ∨ j = 29 ∨ j = 30 ∨ j = 31 ∨ j = 32 ∨ j = 33 ∨ j = 34 ∨ j = 35 ∨ j = 36 ∨ j = 37 ∨ j = 38 ∨ j = 39 ∨ j = 40 ∨ j = 41 ∨ j = 42 ∨ j = 43 ∨ j = 44 ∨ j = 45 ∨ j = 46 ∨ j = 47 ∨ j = 48 ∨ j = 49 ∨ j = 50 ∨ j = 51 ∨ j = 52 ∨ j = 53 ∨ j = 54 ∨ j = 55 ∨ j = 56 ∨ j = 57 by omega) with rfl | rfl | rfl | rfl | rfl | rfl | rfl | rfl | rfl | rfl | rfl | rfl | rfl | rfl | rfl | rfl | rfl | rfl | rfl | rfl | rfl | rfl | rfl | rfl | rfl | rfl | rfl | rfl | rfl | rfl | rfl | rfl | rfl | rfl | rfl | rfl | rfl | rfl | rfl | rfl | rfl | rfl | rfl | rfl | rfl | rfl | rfl | rfl | rfl | rfl | rfl | rfl | rfl | rfl | rfl | rfl | rfl | rfl <;> rfl) (Nat.le_of_ble_eq_true rfl) (Nat.le_of_ble_eq_true rfl) dL_law_8 (fun q2 H2 hP hD hS _ hq2 _ => ?_)
  have hz1 : w1.length = 38 := by subst hw1; rfl
  have hg2 : (w1 ++ [(q2, .inr (12, [.int 0, .int 0, .int 0, .null, .null, .null, .null, .null, .null, .null, .null, .null, .int 0, .null, .null, .null, .null, .null, .null, .null, .null, .null, .null, .null, .int 0, .int 0, .null, .null, .null, .null, .null, .null, .null, .int 0, .int 0, .int 0, .int 0, .int 0, .null, .null, .null, .null, .null, .null, .null, .int 0, .int 0, .null, .null, .null, .null, .int 0, .null, .int 0, .null, .null, .null, .null]))])[38]? = some (q2, .inr (12, [.int 0, .int 0, .int 0, .null, .null, .null, .null, .null, .null, .null, .null, .null, .int 0, .null, .null, .null, .null, .null, .null, .null, .null, .null, .null, .null, .int 0, .int 0, .null, .null, .null, .null, .null, .null, .null, .int 0, .int 0, .int 0, .int 0, .int 0, .null, .null, .null, .null, .null, .null, .null, .int 0, .int 0, .null, .null, .null, .null, .int 0, .null, .int 0, .null, .null, .null, .null])) := by
    rw [List.getElem?_append_right (by omega), hz1]
    rfl
  refine lv_dup hx hb dL_law_11 rfl ?_
  refine tb_cIi (Z := ZI (fun q : Nat => s.heap.size ≤ q) K) ZI_ok hx hb hml hown hts hK hP hD hS hA (fun _ h => h) hZ [] (mX12_init (l := l) q2 H2.size ZI_ok (hD.2 38 _ hg2) (fun q h => Nat.le_trans hS.1 h)) pmX12_init tw1217 ⟨Nat.le_of_ble_eq_true rfl, Nat.le_of_ble_eq_true rfl⟩ rfl rfl 38 hg2 (List.range 38) (wr := w1) (by subst hw1; rfl) (by decide) (by decide) rfl hl.1 (Nat.le_of_ble_eq_true rfl) ⟨Nat.le_of_ble_eq_true rfl, Nat.le_of_ble_eq_true rfl⟩ rfl dL_law_12 (fun u2 H3 locs3 hP hD hS _ _ _ => ?_)
  generalize hw2 : res_X12 cy q2 u2 = w2 at hP hD
  have hP1 : va_P D vwCl w1 H3 := fun k q h => hP k q ((List.getElem?_append_left (List.getElem?_eq_some_iff.mp h).1).trans h)
  have hP2 : va_P D vwCl w2 H3 := fun k q h => hP (w1.length + k) q (by rw [List.getElem?_append_right (Nat.le_add_right _ _), Nat.add_sub_cancel_left]; exact h)
  have hD2 : va_D (fun q : Nat => s.heap.size ≤ q) w2 := ⟨fun i j x y h1 h2 h3 => by
    have := hD.1 (w1.length + i) (w1.length + j) x y (by rw [List.getElem?_append_right (Nat.le_add_right _ _), Nat.add_sub_cancel_left]; exact h1) (by rw [List.getElem?_append_right (Nat.le_add_right _ _), Nat.add_sub_cancel_left]; exact h2) h3
    omega, fun k q h => hD.2 (w1.length + k) q (by rw [List.getElem?_append_right (Nat.le_add_right _ _), Nat.add_sub_cancel_left]; exact h)⟩
  have hMb : ∀ q, AM (adM0 q2 u2) q → s.heap.size ≤ q := fun q ⟨t, i, h1, _, h3⟩ => by
    obtain ⟨e1, k1⟩ := (celM hw2.symm hP2 t i h1).2.2
    rw [← h3]
    exact hD2.2 _ _ k1
  have hD1 : va_D (AC s.heap.size (adM0 q2 u2)) w1 := ⟨fun i j x y h1 h2 h3 => hD.1 i j x y ((List.getElem?_append_left (List.getElem?_eq_some_iff.mp h1).1).trans h1) ((List.getElem?_append_left (List.getElem?_eq_some_iff.mp h2).1).trans h2) h3, fun k q h => ⟨hD.2 k q ((List.getElem?_append_left (List.getElem?_eq_some_iff.mp h).1).trans h), fun ⟨t, i, h1, _, h3⟩ => by
    obtain ⟨e1, k1⟩ := (celM hw2.symm hP2 t i h1).2.2
    have hk := (List.getElem?_eq_some_iff.mp h).1
    have := hD.1 k (w1.length + psM t i) q _ ((List.getElem?_append_left hk).trans h) (by rw [List.getElem?_append_right (Nat.le_add_right _ _), Nat.add_sub_cancel_left]; exact k1) h3.symm
    omega⟩⟩
  have hWC := wdC hw1.symm hP1 hD1
  have hWM : Wd D cy (AM (adM0 q2 u2)) cnM (adM0 q2 u2) MM0 H3 := wdM hw2.symm hP2 hD2
  refine lv_astore_n (lv' := [(2, .ref q2), (1, .ref q1), (0, .ref b)]) hx hb dL_law_15 rfl hl (by decide) rfl (fun ls hl => ?_)
  refine lv_iconst (v := (0 : Int32)) hx hb dL_law_16 (by decide) ?_
  refine lv_istore_n (lv' := [(3, .int 0), (2, .ref q2), (1, .ref q1), (0, .ref b)]) hx hb dL_law_17 rfl hl (by decide) rfl (fun ls hl => ?_)
  exact law_loop (Sim := fun _ C M nS nL => Sim C M nS nL) (K := K) ⟨hx, hb, hml, hown, hts, hX, hbl, hK, hZ.1, hMb⟩ hL hlocks hr (hskip := fun _ _ _ _ _ h => h)
    (hs_stone := fun k MC MM nS nL a1 a2 a3 _ h => qs_stone h a1 a2 a3)
    (hs_line := fun k MC MM nS nL a1 a2 a3 _ h => qs_line h a1 a2 a3)
    (hs_citings := fun k MC MM nS nL a1 a2 a3 a4 _ h => qs_citings h a1 a2 a3 a4)
    (hs_ofStone := fun k MC MM nS nL a1 a2 _ h => qs_ofStone h a1 a2)
    (hs_worth := fun k MC MM nS nL a1 _ h => qs_worth h a1)
    (hs_says := fun k MC MM nS nL a1 _ h => qs_says h a1)
    (hs_ofLine := fun k MC MM nS nL a1 a2 _ h => (qs_ofLine h a1 a2).elim (fun r e => ⟨r, e.1, e.2, h⟩))
    (hs_change := fun k MC MM nS nL a1 a2 a3 _ h => qs_change h a1 a2 a3)
    (hs_take := fun k MC MM nS nL a1 a2 a3 _ h => qs_take h a1 a2 a3)
    (hs_restore := fun k MC MM nS nL a1 _ h => qs_restore h a1)
    (hs_with := fun k MC MM nS nL a1 a2 a3 _ h => qs_with h a1 a2 a3)
    (hs_falls := fun k MC MM nS nL a1 a2 _ h => qs_falls h a1 a2)
    (hs_turned := fun k MC MM nS nL a1 a2 _ h => qs_turned h a1 a2)
    (hs_hangs := fun k MC MM nS nL a1 _ h => qs_hangs h a1)
    (hs_hung := fun k MC MM nS nL a1 _ h => qs_hung h a1)
    (hs_seed := fun k MC MM nS nL a1 _ h => qs_seed h a1)
    (hs_months := fun k MC MM nS nL a1 _ h => qs_months h a1)
    (hs_feed := fun k MC MM nS nL a1 a2 _ h => qs_feed h a1 a2)
    (hs_text := fun k MC MM nS nL a1 _ h => qs_text h a1)
    (hs_odds := fun k MC MM nS nL a1 a2 _ h => qs_odds h a1 a2)
    (hs_letter := fun k MC MM nS nL a1 _ h => qs_letter h a1)
    (hs_copy := fun k MC MM nS nL a1 a2 _ h => qs_copy h a1 a2)
    (hs_mark := fun k MC MM nS nL a1 a2 _ h => qs_mark h a1 a2)
    (hs_lacks := fun k MC MM nS nL a1 _ h => (qs_lacks h a1).elim (fun r e => ⟨r, e.1, e.2, h⟩))
    (hs_tell := fun k MC MM nS nL a1 a2 _ h => qs_tell h a1 a2)
    (hs_land := fun k MC MM nS nL a1 _ h => qs_land h a1)
    (hs_name := fun k MC MM nS nL a1 a2 a3 _ h => qs_name h a1 a2 a3)
    (hs_share := fun k MC MM nS nL a1 a2 _ h => (qs_share h a1 a2).elim (fun r e => ⟨r, e.1, e.2, h⟩))
    (hs_hands := fun k MC MM nS nL a1 a2 _ h => qs_hands h a1 a2)
    (hs_fair := fun k MC MM nS nL a1 _ h => (qs_fair h a1).elim (fun r e => ⟨r, e.1, e.2, h⟩))
    (hs_span := fun k MC MM nS nL a1 a2 _ h => (qs_span h a1 a2).elim (fun r e => ⟨r, e.1, e.2, h⟩))
    (hs_undo := fun k MC MM nS nL  _ h => qs_undo h )
    (hs_redo := fun k MC MM nS nL  _ h => qs_redo h )
    (hs_act := fun k MC MM nS nL a1 a2 a3 _ h => qs_act h a1 a2 a3)
    (hs_trace := fun k MC MM nS nL a1 _ h => (qs_trace h a1).elim (fun r e => ⟨r, e.1, e.2, h⟩))
    (hs_keep := fun k MC MM nS nL a1 a2 _ h => qs_keep h a1 a2)
    (hs_row := fun k MC MM nS nL a1 a2 a3 _ h => qs_row h a1 a2 a3)
    (hs_put := fun k MC MM nS nL a1 a2 a3 _ h => qs_put h a1 a2 a3)
    (hs_element := fun k MC MM nS nL a1 a2 _ h => (qs_element h a1 a2).elim (fun r e => ⟨r, e.1, e.2, h⟩))
    (hs_shift := fun k MC MM nS nL a1 a2 a3 a4 a5 _ h => qs_shift h a1 a2 a3 a4 a5)
    (hs_taken := fun k MC MM nS nL a1 a2 _ h => qs_taken h a1 a2)
    (hs_count := fun k MC MM nS nL a1 _ h => ⟨_, rfl, (qs_count h a1).symm, h⟩)
    64 0 (Nat.zero_le _) (by omega) MC0 MM0 0 0 (adC0 q1 u1) H3 _ ls sim_0 hWC hWM hS (lv_sub hl [3, 2, 1, 0] rfl)
set_option maxHeartbeats 4000000 in
theorem lw_walk (l : Launch) (hflags : l.flags = flags0) (b : Addr) (xs : List Int32) : MetFree l x (headSpec (Jvm.Cond.code x code maxLocals ret :: tables_1) room_1) (lw_P b xs) (fun _ _ _ _ _ => True) lw_Q := by
  refine MetFree.of_bodyS (code := code) (maxLocals := maxLocals) (ret := ret) (by decide) ?_ ?_
  · intro args s m h hn
    obtain ⟨meth, c, h1, h2, h3, h4, h5, h6, -, -⟩ := Cond.code_spec hn (atoms_spec (ws := Jvm.Cond.code x code maxLocals ret :: tables_1) h _ List.mem_cons_self)
    exact ⟨meth, c, h1, h2, h3, h4, h5, h6⟩
  · intro p e s m args below meth c s₁ B hml0 hP _
    obtain ⟨rfl, hx, hbd, hgv⟩ := hP
    obtain ⟨scr, harrAt, hlist, hof, hsmall⟩ := hx
    obtain ⟨hcb, hkn, -, -⟩ := State.arrayAt?_spec harrAt
    have hown : s.vm.findClass R_law = some m.cls := findClass_of_methodNamed B.named
    have hts0 : ∀ c ∈ (Jvm.Cond.code x code maxLocals ret :: tables_1), c.before #[Value.ref b] s = true := atoms_spec (ws := Jvm.Cond.code x code maxLocals ret :: tables_1) B.pre
    have hts : ∀ w ∈ lw_tbl, w.before #[Value.ref b] s = true := k2_hts_sels lw_privs (fun w hw => hts0 w (List.mem_cons_of_mem _ hw)) lw_privs_ok
    have hml : c.maxLocals = 4 := B.maxLocals_eq (hts0 _ List.mem_cons_self)
    have X₀ : Stand p l e room_1 s m #[Value.ref b] below meth c s₁ [] 0 0 := Stand.of_body B
    have hh0 : s₁.heap = s.heap := by rw [B.state]; rfl
    have hsz : scr.slots.size = xs.length := by rw [← Array.length_toList, hlist, List.length_map]
    have hval : ∀ j : Nat, j < xs.length → scr.slots[j]? = some (.int (xs.getD j 0)) := fun j hj => by
      rw [← Array.getElem?_toList, hlist]
      simp [hj]
    have hbl : b < s.heap.size := (Array.getElem?_eq_some_iff.mp hcb).1
    have hX : va_X b xs.length (fun j => xs.getD j 0) s s.heap := ⟨scr, hcb, hof, hkn, hsz, hval⟩
    have K : W p l e room_1 s m #[Value.ref b] below meth c s₁.heap [] 0 0 (lw_Z below #[Value.ref b] s) (entryFrame m ([Value.ref b] : List Value).toArray 4) := by
      rw [hh0]
      exact whole_start l hflags hbd ⟨B.exec, B.bytes, B.returns, hml, hown, hts, hX, hbl, B.notSynchronized, hgv⟩
    obtain ⟨t, a1, o, b1, b2, b3⟩ := K s₁ rfl X₀
    exact ⟨t, o, a1, b1, b2, b3⟩
theorem lw_pre_spec {args : Array Value} {s : State} (h : (Jvm.Cond.and given_1 narrow_1).before args s = true) (hr : rest_1_c.before args s = true) : ∃ (b : Addr) (xs : List Int32), lw_P b xs args s := by
  have hs := flat_of_before _ h
  have hq := flat_of_before _ hr
  have hc : (Cond.count 1).before args s = true := hs _ (by decide +kernel)
  have harr : (Cond.arrayOf (.arg 0) .int).before args s = true := hs _ (by decide +kernel)
  have hle : (Cond.le (.length (.arg 0)) (.int 384)).before args s = true := hs _ (by decide +kernel)
  have hlen : (Cond.isInt (.length (.arg 0))).before args s = true := hq _ (by decide +kernel)
  have hall : (Cond.all (.arg 0) (.isInt (.elem (.arg 0) (.index 0)))).before args s = true := hq _ (by decide +kernel)
  obtain ⟨b, xs, hb, hx⟩ := State.ints_of_pre rfl harr hlen hall
  have hsm : xs.length < 2 ^ 31 := hx.choose_spec.2.2.2
  have hev : (Term.length (.arg 0)).eval args s none [] s = some (.int xs.length.toInt32) := hx.length_eval hb
  have hv := Cond.le_ints hev (show (Term.int 384).eval args s none [] s = some (.int 384) from rfl)
  have hd : xs.length.toInt32 ≤ 384 := by
    simpa [Cond.before, Cond.holds, hv] using hle
  have hN : xs.length ≤ 384 := (Int32.ofNat_le_ofNat hsm (by decide)).mp (show Int32.ofNat xs.length ≤ Int32.ofNat 384 from hd)
  exact ⟨b, xs, Cond.one_arg hc (show args[0]? = some (.ref b) from hb), hx, hN, h⟩
theorem lw_comes (l : Launch) (hflags : l.flags = flags0) : Comes l x (Jvm.Cond.code x code maxLocals ret :: tables_1) room_1 (fun tb e args s => Calls_1 tb e args s ∧ rest_1 tb e args s ∧ Pre_1 tb e args s)
    (fun _ _ args s o t => lw_Q args s o t) := by
  intro p e ha hc hk s m args below hf hfit hheap happ hpre
  obtain ⟨b, xs, hP⟩ := lw_pre_spec hpre.2.2 hpre.2.1
  obtain ⟨k, o, h1, h2, h3, hQ⟩ := lw_walk l hflags b xs p e ha hc hk s m args below hf ((Spec.applies_iff_loose hf).mp happ).1 hP trivial
  exact ⟨k, o, h1, h2, h3, hQ⟩
theorem lw_frame {s t : State} {o : Outcome} {args : Array Value} (h : Framed s o t [] 600000 7302250) :
    Framed s o t (fieldLocs frame_1_writes args s ++ arrayLocs frame_1_arrays args s ++ staticLocs frame_1_statics s) 600000 7302250 := h
theorem lw_limb (L : Cond) (hL : ∀ (args : Array Value) (s t : State), L.after args s (.returned (some (.int 1))) t = true) :
    ArmFor flags0 classFile x code maxLocals ret World_1 tables_1 room_1 Calls_1 rest_1 Pre_1
      (fun tb e a s o t => postC L tb e a s o t ∧ Framed s o t (fieldLocs frame_1_writes a s ++ arrayLocs frame_1_arrays a s ++ staticLocs frame_1_statics s) 600000 7302250) := by
  intro l hflags _ _ p e ha hc hk s m args below hf hfit hheap happ hpre
  obtain ⟨k, o, h1, h2, h3, rfl, hF⟩ := lw_comes l hflags p e ha hc hk s m args below hf hfit hheap happ hpre
  exact ⟨k, _, h1, h2, h3, hL args s _, lw_frame hF⟩
theorem i_vc : Claimed_1_1 ∧ Claimed_1_2 := ⟨lw_limb limb_1_1 (fun args s t => by simp [limb_1_1, Cond.after, Cond.holds, Cond.value]), lw_limb limb_1_2 (fun args s t => Cond.after_iff.mpr (by
  first | (rw [show limb_1_2 = Cond.eq .result (.int 1) from rfl, Cond.eq_ints (x := 1) (y := 1) rfl rfl]; simp; done) | (simp [limb_1_2, Cond.value, Term.eval]; done)))⟩
