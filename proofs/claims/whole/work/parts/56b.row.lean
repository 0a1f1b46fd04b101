theorem row_sim {C M : Mem} {nS nL : Nat} (h : Sim C M nS nL) {q e z : Nat} {w : Int32} (hw : w = -nI (2 + e)) (hq : q < 6) (he : e ≤ 4) (hz : z ≤ 60) (C1 M1 : Mem) (d2 : EqOff [3800] (msI (msI C 3500 0 q (nI e)) 3600 0 q (nI z)) C1) (d3 : ∀ j, mgL C1 3800 0 j = if 60 * q ≤ j ∧ j < 60 * q + 60 then 0 else mgL (msI (msI C 3500 0 q (nI e)) 3600 0 q (nI z)) 3800 0 j)
    (g2 : EqOff [9100] (msI (msI M 8900 0 q w) 9000 0 q (nI z)) M1) (g3 : ∀ j, mgL M1 9100 0 j = if 60 * q ≤ j ∧ j < 60 * q + 60 then 0 else mgL (msI (msI M 8900 0 q w) 9000 0 q (nI z)) 9100 0 j) : Sim C1 M1 nS nL := by
  have hC : EqOff [3500, 3600, 3800] C C1 := EqOff.trans ((EqOff.refl.I rfl).I rfl) (d2.wide rfl)
  have hM : EqOff [8900, 9000, 9100] M M1 := EqOff.trans ((EqOff.refl.I rfl).I rfl) (g2.wide rfl)
  have hCt := hC.txC rfl
  have hMt := hM.txM rfl
  have k1 := d2.on (K := [3500, 3600, 3700]) rfl
  have k2 := g2.on (K := [8900, 9000]) rfl
  have gp : f_p1 C1 M1 nS nL := fun t ht => by
    have e1 : mgI C1 3500 0 t = if t = q then nI e else mgI C 3500 0 t := by rw [(k1 3500 (by decide)).1]; simp only [mgI_I, mgL_L, mgR_R, mgI_L, mgI_R, mgL_I, mgL_R, mgR_I, mgR_L, Nat.reduceEqDiff, false_and, and_false, true_and, and_true, ↓reduceIte]
    have e2 : mgI C1 3600 0 t = if t = q then nI z else mgI C 3600 0 t := by rw [(k1 3600 (by decide)).1]; simp only [mgI_I, mgL_L, mgR_R, mgI_L, mgI_R, mgL_I, mgL_R, mgR_I, mgR_L, Nat.reduceEqDiff, false_and, and_false, true_and, and_true, ↓reduceIte]
    have e3 : mgI C1 3700 0 t = mgI C 3700 0 t := by rw [(k1 3700 (by decide)).1]; simp only [mgI_I, mgL_L, mgR_R, mgI_L, mgI_R, mgL_I, mgL_R, mgR_I, mgR_L, Nat.reduceEqDiff, false_and, and_false, true_and, and_true, ↓reduceIte]
    have e4 : mgI M1 8900 0 t = if t = q then w else mgI M 8900 0 t := by rw [(k2 8900 (by decide)).1]; simp only [mgI_I, mgL_L, mgR_R, mgI_L, mgI_R, mgL_I, mgL_R, mgR_I, mgR_L, Nat.reduceEqDiff, false_and, and_false, true_and, and_true, ↓reduceIte]
    have e5 : mgI M1 9000 0 t = if t = q then nI z else mgI M 9000 0 t := by rw [(k2 9000 (by decide)).1]; simp only [mgI_I, mgL_L, mgR_R, mgI_L, mgI_R, mgL_I, mgL_R, mgR_I, mgR_L, Nat.reduceEqDiff, false_and, and_false, true_and, and_true, ↓reduceIte]
    rw [e1, e2, e3, e4, e5]
    by_cases et : t = q
    · rw [if_pos et, if_pos et, if_pos et, if_pos et]
      exact Or.inr (Or.inr ⟨e, z, he, hz, rfl, hw, rfl, rfl⟩)
    · rw [if_neg et, if_neg et, if_neg et, if_neg et]
      exact sm_p1 h t ht
  have gq : f_p2 C1 M1 nS nL := fun t ht => by
    rw [d3, g3]
    by_cases e : 60 * q ≤ t ∧ t < 60 * q + 60
    · rw [if_pos e, if_pos e]
    · rw [if_neg e, if_neg e]
      simp only [mgI_I, mgL_L, mgR_R, mgI_L, mgI_R, mgL_I, mgL_R, mgR_I, mgR_L, Nat.reduceEqDiff, false_and, and_false, true_and, and_true, ↓reduceIte]
      exact sm_p2 h t ht
  exact ⟨fr_b1 (sm_b1 h),
    fr_c1 (hC.on rfl)  (sm_c1 h),
    fr_c2  (hM.on rfl) (sm_c2 h),
    fr_r1 (hC.on rfl)  (sm_r1 h),
    fr_r2 (hC.on rfl)  (sm_r2 h),
    fr_s0 (hC.on rfl)  (sm_s0 h),
    fr_sK (hC.on rfl) (hM.on rfl) (sm_sK h),
    fr_sM (hC.on rfl) (hM.on rfl) (sm_sM h),
    fr_sA (hC.on rfl) (hM.on rfl) (sm_sA h),
    fr_sB (hC.on rfl) (hM.on rfl) (sm_sB h),
    fr_sI (hC.on rfl) (hM.on rfl) (sm_sI h),
    fr_sW (hC.on rfl) (hM.on rfl) (sm_sW h),
    fr_sP (hC.on rfl) (hM.on rfl) (sm_sP h),
    fr_sH (hC.on rfl) (hM.on rfl) (sm_sH h),
    fr_sT (hC.on rfl) (hM.on rfl) (sm_sT h),
    fr_vK  (hM.on rfl) (sm_vK h),
    fr_vB  (hM.on rfl) (sm_vB h),
    fr_n1  (hM.on rfl) (sm_n1 h),
    fr_n2 (hC.on rfl) (hM.on rfl) (sm_n2 h),
    fr_vM  (hM.on rfl) (sm_vM h),
    fr_vT  (hM.on rfl) (sm_vT h),
    fr_tB (hC.on rfl) (hM.on rfl) (sm_tB h),
    fr_vJ  (hM.on rfl) (sm_vJ h),
    fr_vH  (hM.on rfl) (sm_vH h),
    fr_l0 (hC.on rfl) (hM.on rfl) (sm_l0 h),
    fr_l1 (hC.on rfl) (hM.on rfl) (sm_l1 h),
    fr_l3 (hC.on rfl) (hM.on rfl) (sm_l3 h),
    fr_l4 (hC.on rfl) (hM.on rfl) (sm_l4 h),
    fr_l5 (hC.on rfl) (hM.on rfl) (sm_l5 h),
    fr_vL  (hM.on rfl) (sm_vL h),
    fr_vW  (hM.on rfl) (sm_vW h),
    fr_vE  (hM.on rfl) (sm_vE h),
    fr_vD  (hM.on rfl) (sm_vD h),
    fr_h1 (hC.on rfl) (hM.on rfl) (sm_h1 h),
    fr_h2 (hC.on rfl) (hM.on rfl) (sm_h2 h),
    fr_h3 (hC.on rfl) (hM.on rfl) (sm_h3 h),
    fr_h4 (hC.on rfl) (hM.on rfl) (sm_h4 h),
    fr_h5 (hC.on rfl) (hM.on rfl) (sm_h5 h),
    fr_z1  (hM.on rfl) (sm_z1 h),
    fr_z2  (hM.on rfl) (sm_z2 h),
    fr_z3  (hM.on rfl) (sm_z3 h),
    fr_e1 (hC.on rfl) (hM.on rfl) (sm_e1 h),
    fr_e2  (hM.on rfl) (sm_e2 h),
    fr_e3 (hC.on rfl) (hM.on rfl) (sm_e3 h),
    fr_o1  (hM.on rfl) (sm_o1 h),
    fr_o2 (hC.on rfl) (hM.on rfl) (sm_o2 h),
    fr_o3 (hC.on rfl) (hM.on rfl) (sm_o3 h),
    fr_o4 (hC.on rfl) (hM.on rfl) (sm_o4 h),
    fr_o5 (hC.on rfl) (hM.on rfl) (sm_o5 h),
    fr_o6  (hM.on rfl) (sm_o6 h),
    fr_g1 (hC.on rfl) (hM.on rfl) (sm_g1 h),
    fr_d1 (hC.on rfl) (hM.on rfl) (sm_d1 h),
    fr_t1 (hC.on rfl) (hM.on rfl) (sm_t1 h),
    fr_x1 hCt hMt (sm_x1 h),
    fr_a1 (hC.on rfl) (hM.on rfl) (sm_a1 h),
    fr_a2 (hC.on rfl) (hM.on rfl) (sm_a2 h),
    gp,
    gq⟩
theorem qs_row {C M : Mem} {nS nL : Nat} (h : Sim C M nS nL) (a1 a2 a3 : Int32) : QA nS nL (fX11_row a1 a2 a3 C) (fX12_row a1 a2 a3 M) := by
  unfold fX11_row fX12_row
  rcases pl_c a1 with ⟨q, hq, rfl, e1, e2⟩ | ⟨e1, e2⟩
  · rw [e1, e2]
    simp only [nm_q]
    rw [if_neg one_ne, if_neg one_ne]
    rcases rg_c a2 0 4 (by decide) (by decide) with ⟨h1, h2⟩ | ⟨h1, h2⟩ | ⟨e, -, he, rfl⟩
    · rw [if_pos (show a2 < 0 from h1), in_lo (show a2 < 0 from h1)]
      exact QA_same h rfl rfl
    · rw [if_pos (show (4 : Int32) < a2 from h1), ite_self, in_hi (show (4 : Int32) < a2 from h1)]
      exact QA_same h rfl rfl
    · rw [show fX12_in (nI e) 0 4 = 1 from in_ok (lo := 0) (hi := 4) (Nat.zero_le _) he (by decide), if_neg one_ne, if_neg (nI_pos (by omega)), if_neg (show ¬ (4 : Int32) < nI e from nI_nlt he (by decide))]
      by_cases h60 : a3 ≤ 60
      · rw [if_pos h60, if_pos h60]
        by_cases h0 : 0 ≤ a3
        · rw [if_pos h0, if_pos h0]
          obtain ⟨z, hz, rfl⟩ := nI_of2 (M := 60) (n := 60) (by decide) (Int32.not_lt.mpr h0) h60
          simp only [fX6_holdRow, nm_q, nI_clamp (show q < 2 ^ 31 by omega), ix_n (show q < 6 by omega) (show 6 < 2 ^ 31 by omega)]
          obtain ⟨C1, d1, d2, d3⟩ := hr_l hq (msI (msI C 3500 0 q (nI e)) 3600 0 q (nI z))
          rw [show (60 : Int32) * nI q = nI (60 * q) from pk_mul 60 q]
          obtain ⟨M1, g1, g2, g3⟩ := mr_l hq (msI (msI M 8900 0 q ((-2 : Int32) - nI e)) 9000 0 q (nI z))
          rw [d1, g1]
          simp only [bE_s]
          exact ⟨_, _, _, rfl, rfl, row_sim h (ng_f e (by omega)).2.2.2.2.2.2.1 hq he hz C1 M1 d2 d3 g2 g3⟩
        · rw [if_neg h0, if_neg h0]
          exact QA_same h rfl rfl
      · rw [if_neg h60, if_neg h60]
        exact QA_same h rfl rfl
  · rw [e1, e2]
    exact QA_same h rfl rfl
