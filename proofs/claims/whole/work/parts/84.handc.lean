/-! hands -/
theorem hb_l {C M M5 : Mem} {nS nL : Nat} (h : Sim C M nS nL) (h87 : mgI M5 8700 = mgI M 8700) (h50 : mgI M5 5000 = mgI M 5000) (h54 : mgI M5 5400 = mgI M 5400) (hc : mgI M5 1202 0 0 = nI nS) {y : Int32} {x : Nat} (hx : x < 64) : ∀ (d k : Nat) (U : Nat → Bool) (j : Int64) (m m' : Nat) (i6 : Int32) (C1 : Mem), k + d = x → d < ctU (fun i => fiP C M y i && !U i) nS → (∀ i, i < 64 → hB j i = U i) → d < m → d + 1 < m' → mgI C1 502 0 0 = nI nS → (∀ i, i < nS → mgI C1 3400 0 i = if (fiP C M y i && !U i) = true then nI (wS M5 i) else -1) →
    ∃ b C2, fX12_hands_l71 M5 (nI x) y m (nI k) j = some (nI b, M5) ∧ fX5_ithMostStoodOn_l53 (nI x) m' i6 (nI k) C1 = some (nI b, C2) ∧ EqOff [3400] C1 C2 := by
  have hb : nS ≤ 64 ∧ nL ≤ 200 := sm_b1 h
  intro d
  induction d with
  | zero =>
    intro k U j m m' i6 C1 hk hd hj hm hm' c1 hv
    obtain ⟨m, rfl⟩ : ∃ t, m = t + 1 := ⟨m - 1, by omega⟩
    obtain ⟨m', rfl⟩ : ∃ t, m' = t + 2 := ⟨m' - 2, by omega⟩
    simp only [fX12_hands_l71, fX12_hands_b71, fX5_ithMostStoodOn_l53, fX5_ithMostStoodOn_b53, nm_u]
    rw [hd_M h h87 h50 h54 hc hj (fun i => rfl), gr_q hb.1 c1 (wS_le M5) hv]
    cases ha : am (fun i => fiP C M y i && !U i) (wS M5) nS with
    | none =>
      have := am_0 ha
      omega
    | some b =>
      have b1 := (am_s ha).1
      have hkx : k = x := by omega
      subst hkx
      simp only [bd_u]
      rw [if_pos trivial, if_neg (nI_nlt (Nat.le_refl _) (by omega)), if_neg (show ¬ (64 : Int32) ≤ nI k from nI_ge (b := 64) (a := k) (by omega) (by omega)), if_neg (nI_pos (show b < 2 ^ 31 by omega)), ix_n (show b < 64 by omega) (by omega), nI_1, if_pos (nI_lt (show k < k + 1 by omega) (by omega))]
      exact ⟨b, _, rfl, rfl, EqOff.refl.I rfl⟩
  | succ d ih =>
    intro k U j m m' i6 C1 hk hd hj hm hm' c1 hv
    obtain ⟨m, rfl⟩ : ∃ t, m = t + 1 := ⟨m - 1, by omega⟩
    obtain ⟨m', rfl⟩ : ∃ t, m' = t + 1 := ⟨m' - 1, by omega⟩
    simp only [fX12_hands_l71, fX12_hands_b71]
    rw [fX5_ithMostStoodOn_l53, fX5_ithMostStoodOn_b53]
    simp only [nm_u]
    rw [hd_M h h87 h50 h54 hc hj (fun i => rfl), gr_q hb.1 c1 (wS_le M5) hv]
    cases ha : am (fun i => fiP C M y i && !U i) (wS M5) nS with
    | none =>
      have := am_0 ha
      omega
    | some b =>
      obtain ⟨b1, b2⟩ := am_s ha
      have hct := ct_out (p := fun i => fiP C M y i && !U i) (q := fun i => fiP C M y i && !(U i || decide (i = b))) b2 (fun i => by cases fiP C M y i <;> cases U i <;> rfl) b1
      simp only [bd_u]
      rw [if_neg (show ¬ nI k = nI x from fun w => by have := (nI_eq (by omega) (by omega)).mp w; omega), if_neg (nI_nlt (show k ≤ x by omega) (by omega)), if_neg (show ¬ (64 : Int32) ≤ nI k from nI_ge (b := 64) (a := k) (by omega) (by omega)), if_neg (nI_pos (show b < 2 ^ 31 by omega)), ix_n (show b < 64 by omega) (by omega), nI_1, nI_clamp (show b < 2 ^ 31 by omega)]
      obtain ⟨b', C2, r1, r2, r3⟩ := ih (k + 1) (fun i => U i || decide (i = b)) (j ||| fX11_bit (nI b)) m m' (nI b) (msI C1 3400 0 b (-1)) (by omega) (by omega) (fun i hi => by rw [hB_or, hj i hi, hB_bit (by omega)]) (by omega) (by omega) (by rw [gI_o (by decide)]; exact c1) (fun i hi => by
        simp only [uI_I, uL_L, uR_R, uI_L, uI_R, uL_I, uL_R, uR_I, uR_L, Nat.reduceEqDiff, false_and, and_false, true_and, and_true, ↓reduceIte]
        by_cases e : i = b
        · rw [if_pos e, if_neg (by simp [e])]
        · rw [if_neg e, hv i hi]
          have : (U i || decide (i = b)) = U i := by simp [e]
          rw [this])
      exact ⟨b', C2, r1, r2, (EqOff.refl.I rfl).trans r3⟩
/-- the row of counts -/
theorem it_l {C M M5 : Mem} {nS nL : Nat} (h : Sim C M nS nL) (hS : Std C M M5 nS nL) {y : Int32} (x3 : Int32) (P : Int32 × Mem → Prop) (kk : ∀ C1, EqOff [3400] C C1 → (∀ i, i < nS → mgI C1 3400 0 i = if fiP C M y i = true then nI (wS M5 i) else -1) → Rt (fX5_ithMostStoodOn_l53 x3 FU (-1 : Int32) (0 : Int32) C1) P) : Rt (fX5_ithMostStoodOn (orU (fiP C M y) nS) x3 C) P := by
  have hb : nS ≤ 64 ∧ nL ≤ 200 := sm_b1 h
  unfold fX5_ithMostStoodOn
  refine lpR (fun m k (z : Mem) => fX5_ithMostStoodOn_l3 x3 (orU (fiP C M y) nS) m (nI k) z) P nS (fun k z => EqOff [3400] C z ∧ ∀ i, i < k → mgI z 3400 0 i = if fiP C M y i = true then nI (wS M5 i) else -1) (fun m z hI => ?_) (fun m k z hk hI kx => ?_) FU 0 C (Nat.zero_le _) ⟨EqOff.refl, fun j hj => absurd hj (Nat.not_lt_zero j)⟩ (FU_lt (by omega))
  · simp only [fX5_ithMostStoodOn_l3, fX5_ithMostStoodOn_b3]
    rw [(hI.1.on (K := [502]) rfl 502 (by decide)).1, (sm_c1 h).1, if_pos (nI_le (Nat.le_refl _) (by omega))]
    exact kk z hI.1 hI.2
  · simp only [fX5_ithMostStoodOn_l3, fX5_ithMostStoodOn_b3, nm_u]
    have hz : Sim z M nS nL := h.fr (FrC.of (hI.1.wide rfl)) FrM.refl
    have hSz : Std z M M5 nS nL := by
      have e815 : ∀ s, bl z s = bl C s := fun s => by
        unfold bl
        rw [(hI.1.on (K := [815]) rfl 815 (by decide)).2.1]
      obtain ⟨s1, s2, s3, s4⟩ := hS
      exact ⟨s1, fun s hs => by rw [e815]; exact s2 s hs, fun o ho k hk => by rw [e815]; exact s3 o ho k hk, s4⟩
    rw [(sm_c1 hz).1, if_neg (nI_ge hk (by omega)), isIn_q _ (show k < 64 by omega), hB_orU (by omega)]
    simp only [ix_n (show k < 64 by omega) (show 64 < 2 ^ 31 by omega), nI_clamp (show k < 2 ^ 31 by omega), nI_1, ab_C hz hSz hk, bd_u, pop64]
    rw [decide_eq_true hk, Bool.true_and]
    by_cases e : fiP C M y k = true
    · rw [if_pos e, if_neg one_ne]
      refine kx _ ⟨hI.1.I rfl, fun i hi => ?_⟩
      simp only [uI_I, uL_L, uR_R, uI_L, uI_R, uL_I, uL_R, uR_I, uR_L, Nat.reduceEqDiff, false_and, and_false, true_and, and_true, ↓reduceIte]
      by_cases e2 : i = k
      · rw [if_pos e2, e2, if_pos e]; rfl
      · rw [if_neg e2]; exact hI.2 i (by omega)
    · rw [if_neg e, if_pos rfl]
      refine kx _ ⟨hI.1.I rfl, fun i hi => ?_⟩
      simp only [uI_I, uL_L, uR_R, uI_L, uI_R, uL_I, uL_R, uR_I, uR_L, Nat.reduceEqDiff, false_and, and_false, true_and, and_true, ↓reduceIte]
      by_cases e2 : i = k
      · rw [if_pos e2, e2, if_neg e]
      · rw [if_neg e2]; exact hI.2 i (by omega)
set_option maxHeartbeats 1000000 in
theorem qs_hands {C M : Mem} {nS nL : Nat} (h : Sim C M nS nL) (a1 a2 : Int32) : QA nS nL (fX11_hands a1 a2 C) (fX12_hands a1 a2 M) := by
  have hb : nS ≤ 64 ∧ nL ≤ 200 := sm_b1 h
  unfold fX11_hands fX12_hands
  simp only [nm_u]
  rcases na_c a1 with ⟨n, hn, rfl, e1, e2⟩ | ⟨e1, e2⟩
  · rw [e1, e2, if_neg one_ne, if_neg one_ne]
    by_cases e3 : (-1 : Int32) ≤ a2
    · rw [if_pos e3, if_pos e3]
      obtain ⟨M5, f1, hS⟩ := fs_q h
      rw [f1, nb_C h hn]
      simp only [bE_u, bd_u]
      have hE := hS.1
      have h87 : mgI M5 8700 = mgI M 8700 := (hE.on (K := [8700]) rfl 8700 (by decide)).1
      have h50 : mgI M5 5000 = mgI M 5000 := (hE.on (K := [5000]) rfl 5000 (by decide)).1
      have h54 : mgI M5 5400 = mgI M 5400 := (hE.on (K := [5400]) rfl 5400 (by decide)).1
      have hc : mgI M5 1202 0 0 = nI nS := by rw [(hE.on (K := [1202]) rfl 1202 (by decide)).1]; exact (sm_c2 h).1
      rw [nb_M h h87 hc hn, fi_C h]
      simp only [bd_u]
      generalize nbU C M n nS = y
      have hN : fJ13_bitCount_95d88 (orU (fiP C M y) nS) = nI (ctU (fiP C M y) nS) := by
        rw [pop64]
        congr 1
        rw [ctU_ext (a := nS) (b := 64) (by omega) (fun k h1 h2 => by rw [hB_orU (by omega), decide_eq_false (by omega), Bool.false_and])]
        exact ctU_cong (fun k hk => by rw [hB_orU (by omega), decide_eq_true hk, Bool.true_and])
      rw [hN]
      have hM5 : Sim C M5 nS nL := h.fr FrC.refl (FrM.of (hE.wide rfl))
      have hU0 : ∀ i, i < 64 → hB 0 i = (fun _ => false) i := fun i _ => hB_0 i
      have hc0 : ctU (fun i => fiP C M y i && !(fun _ => false) i) nS = ctU (fiP C M y) nS := ctU_cong (fun k _ => by simp)
      have hN64 : ctU (fiP C M y) nS ≤ 64 := Nat.le_trans (ctU_le _ _) hb.1
      by_cases e4 : a2 = -1
      · rw [if_pos e4, show (0 : Int32) = nI 0 from rfl, hx_M h h87 h50 h54 hc hN64 (Or.inl e4) (ctU (fiP C M y) nS) 0 (fun _ => false) 0 FU (by omega) hc0 hU0 (FU_lt (by omega)), e4, if_neg (show ¬ (0 : Int32) ≤ -1 by decide)]
        exact ⟨_, _, _, rfl, rfl, hM5⟩
      · rw [if_neg e4]
        have e5 : ¬ a2 < 0 := fun w => by
          have h1 := Int32.le_iff_toInt_le.mp e3
          have h2 := Int32.lt_iff_toInt_lt.mp w
          rw [show (-1 : Int32).toInt = -1 from by decide] at h1
          rw [show (0 : Int32).toInt = 0 from by decide] at h2
          exact e4 (Int32.toInt_inj.mp (by rw [show (-1 : Int32).toInt = -1 from by decide]; omega))
        obtain ⟨x, hx, rfl⟩ := nI_of e5
        by_cases e6 : ctU (fiP C M y) nS ≤ x
        · rw [if_pos (nI_le e6 hx), show (0 : Int32) = nI 0 from rfl, hx_M h h87 h50 h54 hc hN64 (Or.inr ⟨x, hx, rfl, e6⟩) (ctU (fiP C M y) nS) 0 (fun _ => false) 0 FU (by omega) hc0 hU0 (FU_lt (by omega)), if_pos (show (0 : Int32) ≤ nI x from nn0 hx)]
          exact ⟨_, _, _, rfl, rfl, hM5⟩
        · rw [if_neg (nI_ge (by omega) (by omega))]
          have H := it_l h hS (y := y) (nI x) (fun r => EqOff [3400] C r.2 ∧ fX12_hands_l71 M5 (nI x) y FU (nI 0) 0 = some (r.1, M5)) (fun C1 k1 k2 => by
            obtain ⟨b, C2, r1, r2, r3⟩ := hb_l h h87 h50 h54 hc (y := y) (x := x) (by omega) x 0 (fun _ => false) 0 FU FU (-1) C1 (by omega) (by rw [hc0]; omega) hU0 (FU_lt (by omega)) (FU_lt (by omega)) (by rw [(k1.on (K := [502]) rfl 502 (by decide)).1]; exact (sm_c1 h).1) (fun i hi => by rw [k2 i hi]; simp)
            exact ⟨(nI b, C2), r2, k1.trans r3, r1⟩)
          obtain ⟨⟨r1, r2⟩, w1, w2, w3⟩ := H
          rw [w1]
          simp only [bE_u]
          exact ⟨r1, r2, M5, rfl, w3, hM5.fr (FrC.of (w2.wide rfl)) FrM.refl⟩
    · rw [if_neg e3, if_neg e3]
      exact QA_same h rfl rfl
  · rw [e1, e2]
    exact QA_same h rfl rfl
