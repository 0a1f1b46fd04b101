/-- one stone in a month: both sides -/
theorem mstep {C M : Mem} {nS nL : Nat} (h : Sim C M nS nL) {i : Nat} (hi : i < nS) : ∃ C' M' e, e ≤ 1 ∧ Sim C' M' nS nL ∧ mgI M' 1201 = mgI M 1201 ∧ (∀ n c, fX3_goOneMonth_l17 (n + 1) (nI c) (nI i) C = fX3_goOneMonth_l17 n (nI (c + e)) (nI (i + 1)) C') ∧ (∀ i6 k4 n c, fX12_months_l46 i6 k4 (n + 1) (nI c) (nI i) M = fX12_months_l46 i6 k4 n (nI (c + e)) (nI (i + 1)) M') := by
  have hb : nS ≤ 64 ∧ nL ≤ 200 := sm_b1 h
  have hC0 : ∀ n c, fX3_goOneMonth_l17 (n + 1) (nI c) (nI i) C = (bd (some (sB C M i)) fun b9 => if b9 = 0 then fX3_goOneMonth_l17 n (nI c) (nI (i + 1)) C else (bE (fX3_oddsOf (some i) (0 : Int32) C) fun b12 M13 => if b12 ≤ (fX3_draw (nI i) (0 : Int32) C) then fX3_goOneMonth_l17 n (nI c) (nI (i + 1)) M13 else (bE (fX3_hear (some i) M13) fun _ M17 => fX3_goOneMonth_l17 n (nI (c + 1)) (nI (i + 1)) M17))) := fun n c => by
    simp only [fX3_goOneMonth_l17, fX3_goOneMonth_b17]
    rw [(sm_c1 h).1, if_neg (nI_ge hi (by omega))]
    simp only [nm_u, ix_n (show i < 64 by omega) (show 64 < 2 ^ 31 by omega), nI_clamp (show i < 2 ^ 31 by omega), sm_r1 h i hi, still_C h hi, nI_1]
  have hM0 : ∀ i6 k4 n c, fX12_months_l46 i6 k4 (n + 1) (nI c) (nI i) M = (if mgI M 5000 0 i = (5 : Int32) then (if mgI M 5700 0 i ≤ 0 then (bE (fX12_findStanding M) fun _ M21 => bd (fX12_isStill (nI i) M21) fun b22 => if b22 = 0 then fX12_months_l46 i6 k4 n (nI c) (nI (i + 1)) M21 else (bE (fX12_oddsOf (nI i) (0 : Int32) M21) fun b25 M26 => if (fX12_drawFor (nI i) (0 : Int32) M21) < b25 then (bE (fX12_hears (nI i) M26) fun _ M29 => fX12_months_l46 i6 k4 n (nI (c + 1)) (nI (i + 1)) M29) else fX12_months_l46 i6 k4 n (nI c) (nI (i + 1)) M26)) else fX12_months_l46 i6 k4 n (nI c) (nI (i + 1)) M) else fX12_months_l46 i6 k4 n (nI c) (nI (i + 1)) M) := fun i6 k4 n c => by
    simp only [fX12_months_l46, fX12_months_b46]
    rw [(sm_c2 h).1, if_neg (nI_ge hi (by omega))]
    simp only [nm_u, ix_n (show i < 64 by omega) (show 64 < 2 ^ 31 by omega), nI_clamp (show i < 2 ^ 31 by omega), nI_1]
  have noC : sB C M i = 0 → ∀ n c, fX3_goOneMonth_l17 (n + 1) (nI c) (nI i) C = fX3_goOneMonth_l17 n (nI (c + 0)) (nI (i + 1)) C := fun hz n c => by
    rw [hC0]
    simp only [bd_u]
    rw [if_pos hz]
    rfl
  by_cases e1 : mgI M 5000 0 i = 5
  · by_cases e2 : mgI M 5700 0 i ≤ 0
    · obtain ⟨M1, m1, m2⟩ := fs_q h
      have hsM := still_M h m2.w hi
      by_cases hz : sB C M i = 0
      · refine ⟨C, M1, 0, by omega, h.fr FrC.refl (frS m2), (frS m2).i rfl, noC hz, fun i6 k4 n c => ?_⟩
        rw [hM0, if_pos e1, if_pos e2, m1]
        simp only [bE_u]
        rw [hsM]
        simp only [bd_u]
        rw [if_pos hz]
        rfl
      · obtain ⟨v, C2, M2, w1, w2, w3, w4⟩ := odds_q h FrC.refl m2.w hi (show 0 < 2 by omega)
        have fC2 := frO w3
        have fM2 : FrM M M2 := (frS m2).trans (frQ w4)
        have h2 : Sim C2 M2 nS nL := h.fr fC2 fM2
        have hW2 : StW C2 M2 M2 nS := ⟨FrM.refl, fun s hs => by
          have := (m2.w.on w4 (frQ w4) rfl).2 s hs
          rw [this]
          unfold bl
          rw [fC2.l (f := 815) rfl]⟩
        by_cases hd : v ≤ fX3_draw (nI i) (0 : Int32) C
        · refine ⟨C2, M2, 0, by omega, h2, fM2.i rfl, fun n c => ?_, fun i6 k4 n c => ?_⟩
          · rw [hC0]
            simp only [bd_u]
            rw [if_neg hz, show (0 : Int32) = nI 0 from rfl, w1]
            simp only [bE_u]
            rw [show nI 0 = (0 : Int32) from rfl, if_pos hd]
            rfl
          · rw [hM0, if_pos e1, if_pos e2, m1]
            simp only [bE_u]
            rw [hsM]
            simp only [bd_u]
            rw [if_neg hz, show (0 : Int32) = nI 0 from rfl, w2]
            simp only [bE_u]
            rw [draw_q h (frS m2), show nI 0 = (0 : Int32) from rfl, if_neg (Int32.not_lt.mpr hd)]
            rfl
        · obtain ⟨C3, M3, c1, c2, c3, c4⟩ := hear_q h2 hW2 hi (by rw [fM2.i (f := 5000) rfl]; exact e1)
          refine ⟨C3, M3, 1, by omega, c3, c4.trans (fM2.i rfl), fun n c => ?_, fun i6 k4 n c => ?_⟩
          · rw [hC0]
            simp only [bd_u]
            rw [if_neg hz, show (0 : Int32) = nI 0 from rfl, w1]
            simp only [bE_u]
            rw [show nI 0 = (0 : Int32) from rfl, if_neg hd, c1]
            rfl
          · rw [hM0, if_pos e1, if_pos e2, m1]
            simp only [bE_u]
            rw [hsM]
            simp only [bd_u]
            rw [if_neg hz, show (0 : Int32) = nI 0 from rfl, w2]
            simp only [bE_u]
            rw [draw_q h (frS m2), show nI 0 = (0 : Int32) from rfl, if_pos (Int32.not_le.mp hd), c2]
            rfl
    · refine ⟨C, M, 0, by omega, h, rfl, noC ?_, fun i6 k4 n c => by rw [hM0, if_pos e1, if_neg e2]; rfl⟩
      unfold sB
      rw [if_pos e1, if_neg (fun z => e2 (by rw [z]; decide))]
  · refine ⟨C, M, 0, by omega, h, rfl, noC ?_, fun i6 k4 n c => by rw [hM0, if_neg e1]; rfl⟩
    unfold sB
    rw [if_neg e1]
theorem mloop {nS nL : Nat} (hb : nS ≤ 64) : ∀ (d i : Nat) (C M : Mem), i + d = nS → Sim C M nS nL → ∃ C' M' e, e ≤ d ∧ Sim C' M' nS nL ∧ mgI M' 1201 = mgI M 1201 ∧ (∀ n c, d < n → fX3_goOneMonth_l17 n (nI c) (nI i) C = some (nI (c + e), C')) ∧ (∀ i6 k4 n c, d < n → fX12_months_l46 i6 k4 n (nI c) (nI i) M = k4 (nI (c + e)) (i6 + (1 : Int32)) M')
  | 0, i, C, M, hi, h => by
    have : i = nS := by omega
    subst this
    refine ⟨C, M, 0, Nat.le_refl _, h, rfl, fun n c hn => ?_, fun i6 k4 n c hn => ?_⟩
    · obtain ⟨m, rfl⟩ : ∃ m, n = m + 1 := ⟨n - 1, by omega⟩
      simp only [fX3_goOneMonth_l17, fX3_goOneMonth_b17]
      rw [(sm_c1 h).1, if_pos (nI_le (Nat.le_refl _) (by omega))]
      rfl
    · obtain ⟨m, rfl⟩ : ∃ m, n = m + 1 := ⟨n - 1, by omega⟩
      simp only [fX12_months_l46, fX12_months_b46]
      rw [(sm_c2 h).1, if_pos (nI_le (Nat.le_refl _) (by omega)), nm_u]
      rfl
  | d + 1, i, C, M, hi, h => by
    obtain ⟨C1, M1, e, he, h1, k1, g1, g2⟩ := mstep h (show i < nS by omega)
    obtain ⟨C2, M2, e2, he2, h2, k2, g3, g4⟩ := mloop hb d (i + 1) C1 M1 (by omega) h1
    refine ⟨C2, M2, e + e2, by omega, h2, k2.trans k1, fun n c hn => ?_, fun i6 k4 n c hn => ?_⟩
    · obtain ⟨m, rfl⟩ : ∃ m, n = m + 1 := ⟨n - 1, by omega⟩
      rw [g1, g3 m (c + e) (by omega), Nat.add_assoc]
    · obtain ⟨m, rfl⟩ : ∃ m, n = m + 1 := ⟨n - 1, by omega⟩
      rw [g2, g4 i6 k4 m (c + e) (by omega), Nat.add_assoc]
/-- NOW is one more -/
theorem now_sim {C M : Mem} {nS nL w : Nat} (h : Sim C M nS nL) (hw : (mgI M 1201 0 0).toNatClampNeg = w) (hw2 : w + 1 ≤ 599) : Sim (msI C 504 0 0 (nI (w + 1))) (msI M 1201 0 0 (nI (w + 1))) nS nL := by
  have hC : EqOff [504] C (msI C 504 0 0 (nI (w + 1))) := EqOff.refl.I rfl
  have hM : EqOff [1201] M (msI M 1201 0 0 (nI (w + 1))) := EqOff.refl.I rfl
  generalize hC' : msI C 504 0 0 (nI (w + 1)) = C' at hC ⊢
  generalize hM' : msI M 1201 0 0 (nI (w + 1)) = M' at hM ⊢
  have hCt := hC.txC rfl
  have hMt := hM.txM rfl
  have n1 : mgI M' 1201 0 0 = nI (w + 1) := by subst hM'; simp only [uI_I, uL_L, uR_R, uI_L, uI_R, uL_I, uL_R, uR_I, uR_L, Nat.reduceEqDiff, false_and, and_false, true_and, and_true, ↓reduceIte]
  have n2 : mgI C' 504 0 0 = nI (w + 1) := by subst hC'; simp only [uI_I, uL_L, uR_R, uI_L, uI_R, uL_I, uL_R, uR_I, uR_L, Nat.reduceEqDiff, false_and, and_false, true_and, and_true, ↓reduceIte]
  have n3 : (mgI M' 1201 0 0).toNatClampNeg = w + 1 := by rw [n1, nI_clamp (by omega)]
  have k2 := hM.on (K := [5100, 5400, 5500, 5600]) rfl
  have gM : f_vM C' M' nS nL := fun t ht => by
    obtain ⟨m, hm, e⟩ := sm_vM h t ht
    rw [hw] at hm
    rw [n3, (k2 5100 (by decide)).1]
    exact ⟨m, by omega, e⟩
  have gT : f_vT C' M' nS nL := fun t ht => by
    rw [n3, (k2 5400 (by decide)).1, (k2 5500 (by decide)).1, (k2 5600 (by decide)).1]
    rcases sm_vT h t ht with z | ⟨m, v, hm, z⟩
    · exact Or.inl z
    · rw [hw] at hm
      exact Or.inr ⟨m, v, by omega, z⟩
  exact ⟨fr_b1 (sm_b1 h),
    fr_c1 (hC.on rfl)  (sm_c1 h),
    fr_c2  (hM.on rfl) (sm_c2 h),
    fr_r1 (hC.on rfl)  (sm_r1 h),
    fr_r2 (hC.on rfl)  (sm_r2 h),
    fr_s0 (hC.on rfl)  (sm_s0 h),
    fr_sK (hC.on rfl) (hM.on rfl) (sm_sK h),
    fr_sM (hC.on rfl) (hM.on rfl) (sm_sM h),
    fr_sA (hC.on rfl) (hM.on rfl) (sm_sA h),
    fr_sB (hC.on rfl) (hM.on rfl) (sm_sB h),
    fr_sI (hC.on rfl) (hM.on rfl) (sm_sI h),
    fr_sW (hC.on rfl) (hM.on rfl) (sm_sW h),
    fr_sP (hC.on rfl) (hM.on rfl) (sm_sP h),
    fr_sH (hC.on rfl) (hM.on rfl) (sm_sH h),
    fr_sT (hC.on rfl) (hM.on rfl) (sm_sT h),
    fr_vK  (hM.on rfl) (sm_vK h),
    fr_vB  (hM.on rfl) (sm_vB h),
    (by unfold f_n1; rw [n3, n1]; exact ⟨rfl, hw2⟩),
    (by unfold f_n2; rw [n1, n2]),
    gM,
    gT,
    fr_tB (hC.on rfl) (hM.on rfl) (sm_tB h),
    fr_vJ  (hM.on rfl) (sm_vJ h),
    fr_vH  (hM.on rfl) (sm_vH h),
    fr_l0 (hC.on rfl) (hM.on rfl) (sm_l0 h),
    fr_l1 (hC.on rfl) (hM.on rfl) (sm_l1 h),
    fr_l3 (hC.on rfl) (hM.on rfl) (sm_l3 h),
    fr_l4 (hC.on rfl) (hM.on rfl) (sm_l4 h),
    fr_l5 (hC.on rfl) (hM.on rfl) (sm_l5 h),
    fr_vL  (hM.on rfl) (sm_vL h),
    fr_vW  (hM.on rfl) (sm_vW h),
    fr_vE  (hM.on rfl) (sm_vE h),
    fr_vD  (hM.on rfl) (sm_vD h),
    fr_h1 (hC.on rfl) (hM.on rfl) (sm_h1 h),
    fr_h2 (hC.on rfl) (hM.on rfl) (sm_h2 h),
    fr_h3 (hC.on rfl) (hM.on rfl) (sm_h3 h),
    fr_h4 (hC.on rfl) (hM.on rfl) (sm_h4 h),
    fr_h5 (hC.on rfl) (hM.on rfl) (sm_h5 h),
    fr_z1  (hM.on rfl) (sm_z1 h),
    fr_z2  (hM.on rfl) (sm_z2 h),
    fr_z3  (hM.on rfl) (sm_z3 h),
    fr_e1 (hC.on rfl) (hM.on rfl) (sm_e1 h),
    fr_e2  (hM.on rfl) (sm_e2 h),
    fr_e3 (hC.on rfl) (hM.on rfl) (sm_e3 h),
    fr_o1  (hM.on rfl) (sm_o1 h),
    fr_o2 (hC.on rfl) (hM.on rfl) (sm_o2 h),
    fr_o3 (hC.on rfl) (hM.on rfl) (sm_o3 h),
    fr_o4 (hC.on rfl) (hM.on rfl) (sm_o4 h),
    fr_o5 (hC.on rfl) (hM.on rfl) (sm_o5 h),
    fr_o6  (hM.on rfl) (sm_o6 h),
    fr_g1 (hC.on rfl) (hM.on rfl) (sm_g1 h),
    fr_d1 (hC.on rfl) (hM.on rfl) (sm_d1 h),
    fr_t1 (hC.on rfl) (hM.on rfl) (sm_t1 h),
    fr_x1 hCt hMt (sm_x1 h),
    fr_a1 (hC.on rfl) (hM.on rfl) (sm_a1 h),
    fr_a2 (hC.on rfl) (hM.on rfl) (sm_a2 h),
    fr_p1 (hC.on rfl) (hM.on rfl) (sm_p1 h),
    fr_p2 (hC.on rfl) (hM.on rfl) (sm_p2 h)⟩
theorem mout {nS nL : Nat} (hb : nS ≤ 64) {x : Nat} (hx : x ≤ 24) : ∀ (d i c w : Nat) (C M : Mem), i + d = x → c ≤ 64 * i → Sim C M nS nL → (mgI M 1201 0 0).toNatClampNeg = w → w + d ≤ 599 → ∃ r C' M', Sim C' M' nS nL ∧ (∀ n, d < n → fX11_months_l32 (nI x) n (nI c) (nI i) C = some (r, C')) ∧ (∀ n, d < n → fX12_months_l28 (nI x) n (nI c) (nI i) M = some (r, M'))
  | 0, i, c, w, C, M, hi, hc, h, hw, hw2 => by
    have : i = x := by omega
    subst this
    refine ⟨nI c, C, M, h, fun n hn => ?_, fun n hn => ?_⟩
    · obtain ⟨m, rfl⟩ : ∃ m, n = m + 1 := ⟨n - 1, by omega⟩
      simp only [fX11_months_l32, fX11_months_b32]
      rw [if_pos (nI_le (Nat.le_refl _) (by omega))]
    · obtain ⟨m, rfl⟩ : ∃ m, n = m + 1 := ⟨n - 1, by omega⟩
      simp only [fX12_months_l28, fX12_months_b28]
      rw [if_pos (nI_le (Nat.le_refl _) (by omega))]
  | d + 1, i, c, w, C, M, hi, hc, h, hw, hw2 => by
    obtain ⟨w', hw', n0, n1, n2⟩ := nwL h
    have eww : w' = w := n2.symm.trans hw
    subst eww
    have h1 := now_sim h hw (by omega)
    obtain ⟨C2, M2, e, he, h2, k2, g1, g2⟩ := mloop hb nS 0 _ _ (by omega) h1
    have hnow : (mgI M2 1201 0 0).toNatClampNeg = w' + 1 := by
      rw [k2]
      simp only [uI_I, uL_L, uR_R, uI_L, uI_R, uL_I, uL_R, uR_I, uR_L, Nat.reduceEqDiff, false_and, and_false, true_and, and_true, ↓reduceIte]
      rw [nI_clamp (by omega)]
    obtain ⟨r, C3, M3, h3, g3, g4⟩ := mout hb hx d (i + 1) (c + e) (w' + 1) C2 M2 (by omega) (by omega) h2 hnow (by omega)
    refine ⟨r, C3, M3, h3, fun n hn => ?_, fun n hn => ?_⟩
    · obtain ⟨m, rfl⟩ : ∃ m, n = m + 1 := ⟨n - 1, by omega⟩
      simp only [fX11_months_l32, fX11_months_b32]
      rw [if_neg (nI_ge (by omega) (by omega))]
      have hg : fX3_goOneMonth C = some (nI e, C2) := by
        unfold fX3_goOneMonth
        simp only [nm_u]
        rw [n1, nI_1]
        have := g1 FU 0 (FU_lt (by omega))
        rw [Nat.zero_add] at this
        exact this
      rw [hg]
      simp only [bE_u, nm_u]
      rw [nI_add, nI_1]
      exact g3 m (by omega)
    · obtain ⟨m, rfl⟩ : ∃ m, n = m + 1 := ⟨n - 1, by omega⟩
      simp only [fX12_months_l28, fX12_months_b28]
      rw [if_neg (nI_ge (by omega) (by omega))]
      simp only [nm_u]
      rw [n0, nI_1]
      have := g2 (nI i) (fX12_months_l28 (nI x) m) FU c (FU_lt (by omega))
      rw [show (0 : Int32) = nI 0 from rfl, this, nI_1]
      exact g4 m (by omega)
theorem qs_months {C M : Mem} {nS nL : Nat} (h : Sim C M nS nL) (a1 : Int32) : QA nS nL (fX11_months a1 C) (fX12_months a1 M) := by
  have hb : nS ≤ 64 ∧ nL ≤ 200 := sm_b1 h
  obtain ⟨w, hw, n0, n1, n2⟩ := nwL h
  unfold fX11_months fX12_months
  simp only [nm_u]
  rcases rg_c a1 1 24 (by decide) (by decide) with ⟨h1, h2⟩ | ⟨h1, h2⟩ | ⟨x, hx1, hx2, rfl⟩
  · rw [if_pos (show a1 < 1 from h1), in_lo (show a1 < 1 from h1)]
    exact QA_same h rfl rfl
  · rw [if_pos (show (24 : Int32) < a1 from h1), ite_self, in_hi (show (24 : Int32) < a1 from h1)]
    exact QA_same h rfl rfl
  · rw [show fX12_in (nI x) 1 24 = 1 from in_ok (lo := 1) (hi := 24) hx1 hx2 (by decide), if_neg one_ne, if_neg (show ¬ nI x < 1 from nI_nlt (b := 1) hx1 (by omega)), if_neg (show ¬ (24 : Int32) < nI x from nI_nlt (a := 24) hx2 (by decide)), n0, n1, nI_add]
    by_cases hf : w + x ≤ 599
    · rw [if_pos (show nI (w + x) ≤ 599 from nI_le hf (by decide)), if_pos (show nI (w + x) ≤ 599 from nI_le hf (by decide))]
      obtain ⟨r, C', M', h3, g3, g4⟩ := mout hb.1 hx2 x 0 0 w C M (by omega) (by omega) h n2 hf
      exact ⟨r, C', M', g3 FU (FU_lt (by omega)), g4 FU (FU_lt (by omega)), h3⟩
    · rw [if_neg (show ¬ nI (w + x) ≤ 599 from nI_ge (b := w + x) (a := 599) (by omega) (by omega)), if_neg (show ¬ nI (w + x) ≤ 599 from nI_ge (b := w + x) (a := 599) (by omega) (by omega))]
      exact QA_same h rfl rfl
