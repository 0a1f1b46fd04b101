theorem cst_e : ∀ x : Nat, x < 3 → (nI x = 0 ↔ x = 0) ∧ (nI x = 1 ↔ x = 1) ∧ (nI x = 2 ↔ x = 2) := by decide +kernel
theorem set_q {C M : Mem} {nS nL : Nat} (h : Sim C M nS nL) {w a b : Int32} (ok : okCh nL (mgI M 1246 0 0).toNatClampNeg w a b) : ∃ C' M', fX1_set w a b C = some ((), C') ∧ fX12_set w a b M = some ((), M') ∧ Sim C' M' nS nL ∧ EqOff [403, 404, 2500] C C' ∧ EqOff [6100, 6200, 8600] M M' := by
  have hb : nS ≤ 64 ∧ nL ≤ 200 := sm_b1 h
  obtain ⟨nc, hnc, m0, c0, hcl⟩ := ncL h
  rw [hcl] at ok
  unfold fX1_set fX12_set
  rcases ok with ⟨rfl, ⟨l, hl, rfl⟩, x, x1, x2, rfl⟩ | ⟨rfl, ⟨l, hl, rfl⟩, x, x2, rfl⟩ | ⟨rfl, c, hc, rfl⟩
  · have e1 : fX5_lineAt (nI l) C = some (some l) := by
      rcases ln_c h (nI l) with ⟨s, hs, -, e, e1, -⟩ | ⟨e1, e2⟩
      · have el : l = s := (nI_eq (by omega) (by omega)).mp e; subst el; exact e1
      · exfalso
        unfold fX12_isLine at e2
        simp only [nm_q, (sm_c2 h).2] at e2
        rw [show nI nL - (1 : Int32) = nI (nL - 1) from pk_sub (b := 1) (by omega), show fX12_in (nI l) 0 (nI (nL - 1)) = 1 from in_ok (lo := 0) (Nat.zero_le _) (by omega) (by omega)] at e2
        exact one_ne e2
    rw [e1]
    simp only [bd_s, oc_S, nm_q, nI_clamp (show l < 2 ^ 31 by omega), ix_n (show l < 200 by omega) (show 200 < 2 ^ 31 by omega)]
    rw [if_pos (show nI 0 = 0 from rfl), if_pos (show nI 0 = 0 from rfl)]
    have hC : EqOff [403] C (msI C 403 l 0 (nI x)) := EqOff.refl.I rfl
    have hM : EqOff [6100] M (msI M 6100 0 l (nI x)) := EqOff.refl.I rfl
    have hCt := hC.txC rfl
    have hMt := hM.txM rfl
    refine ⟨_, _, rfl, rfl, ?_, hC.wide rfl, hM.wide rfl⟩
    have g3 : f_l3 (msI C 403 l 0 (nI x)) (msI M 6100 0 l (nI x)) nS nL := fun t ht => by
      simp only [mgI_I, mgL_L, mgR_R, mgI_L, mgI_R, mgL_I, mgL_R, mgR_I, mgR_L, Nat.reduceEqDiff, false_and, and_false, true_and, and_true, ↓reduceIte]
      by_cases e : t = l
      · rw [if_pos e, if_pos e]
      · rw [if_neg e, if_neg e]; exact sm_l3 h t ht
    have gW : f_vW C (msI M 6100 0 l (nI x)) nS nL := fun t ht => by
      simp only [mgI_I, mgL_L, mgR_R, mgI_L, mgI_R, mgL_I, mgL_R, mgR_I, mgR_L, Nat.reduceEqDiff, false_and, and_false, true_and, and_true, ↓reduceIte]
      by_cases e : t = l
      · rw [if_pos e]; exact ⟨x, x1, x2, rfl⟩
      · rw [if_neg e]; exact sm_vW h t ht
    exact ⟨fr_b1 (sm_b1 h),
    fr_c1 (hC.on rfl)  (sm_c1 h),
    fr_c2  (hM.on rfl) (sm_c2 h),
    fr_r1 (hC.on rfl)  (sm_r1 h),
    fr_r2 (hC.on rfl)  (sm_r2 h),
    fr_s0 (hC.on rfl)  (sm_s0 h),
    fr_sK (hC.on rfl) (hM.on rfl) (sm_sK h),
    fr_sM (hC.on rfl) (hM.on rfl) (sm_sM h),
    fr_sA (hC.on rfl) (hM.on rfl) (sm_sA h),
    fr_sB (hC.on rfl) (hM.on rfl) (sm_sB h),
    fr_sI (hC.on rfl) (hM.on rfl) (sm_sI h),
    fr_sW (hC.on rfl) (hM.on rfl) (sm_sW h),
    fr_sP (hC.on rfl) (hM.on rfl) (sm_sP h),
    fr_sH (hC.on rfl) (hM.on rfl) (sm_sH h),
    fr_sT (hC.on rfl) (hM.on rfl) (sm_sT h),
    fr_vK  (hM.on rfl) (sm_vK h),
    fr_vB  (hM.on rfl) (sm_vB h),
    fr_n1  (hM.on rfl) (sm_n1 h),
    fr_n2 (hC.on rfl) (hM.on rfl) (sm_n2 h),
    fr_vM  (hM.on rfl) (sm_vM h),
    fr_vT  (hM.on rfl) (sm_vT h),
    fr_tB (hC.on rfl) (hM.on rfl) (sm_tB h),
    fr_vJ  (hM.on rfl) (sm_vJ h),
    fr_vH  (hM.on rfl) (sm_vH h),
    fr_l0 (hC.on rfl) (hM.on rfl) (sm_l0 h),
    fr_l1 (hC.on rfl) (hM.on rfl) (sm_l1 h),
    g3,
    fr_l4 (hC.on rfl) (hM.on rfl) (sm_l4 h),
    fr_l5 (hC.on rfl) (hM.on rfl) (sm_l5 h),
    fr_vL  (hM.on rfl) (sm_vL h),
    gW,
    fr_vE  (hM.on rfl) (sm_vE h),
    fr_vD  (hM.on rfl) (sm_vD h),
    fr_h1 (hC.on rfl) (hM.on rfl) (sm_h1 h),
    fr_h2 (hC.on rfl) (hM.on rfl) (sm_h2 h),
    fr_h3 (hC.on rfl) (hM.on rfl) (sm_h3 h),
    fr_h4 (hC.on rfl) (hM.on rfl) (sm_h4 h),
    fr_h5 (hC.on rfl) (hM.on rfl) (sm_h5 h),
    fr_z1  (hM.on rfl) (sm_z1 h),
    fr_z2  (hM.on rfl) (sm_z2 h),
    fr_z3  (hM.on rfl) (sm_z3 h),
    fr_e1 (hC.on rfl) (hM.on rfl) (sm_e1 h),
    fr_e2  (hM.on rfl) (sm_e2 h),
    fr_e3 (hC.on rfl) (hM.on rfl) (sm_e3 h),
    fr_o1  (hM.on rfl) (sm_o1 h),
    fr_o2 (hC.on rfl) (hM.on rfl) (sm_o2 h),
    fr_o3 (hC.on rfl) (hM.on rfl) (sm_o3 h),
    fr_o4 (hC.on rfl) (hM.on rfl) (sm_o4 h),
    fr_o5 (hC.on rfl) (hM.on rfl) (sm_o5 h),
    fr_o6  (hM.on rfl) (sm_o6 h),
    fr_g1 (hC.on rfl) (hM.on rfl) (sm_g1 h),
    fr_d1 (hC.on rfl) (hM.on rfl) (sm_d1 h),
    fr_t1 (hC.on rfl) (hM.on rfl) (sm_t1 h),
    fr_x1 hCt hMt (sm_x1 h),
    fr_a1 (hC.on rfl) (hM.on rfl) (sm_a1 h),
    fr_a2 (hC.on rfl) (hM.on rfl) (sm_a2 h),
    fr_p1 (hC.on rfl) (hM.on rfl) (sm_p1 h),
    fr_p2 (hC.on rfl) (hM.on rfl) (sm_p2 h)⟩
  · have e1 : fX5_lineAt (nI l) C = some (some l) := by
      rcases ln_c h (nI l) with ⟨s, hs, -, e, e1, -⟩ | ⟨e1, e2⟩
      · have el : l = s := (nI_eq (by omega) (by omega)).mp e; subst el; exact e1
      · exfalso
        unfold fX12_isLine at e2
        simp only [nm_q, (sm_c2 h).2] at e2
        rw [show nI nL - (1 : Int32) = nI (nL - 1) from pk_sub (b := 1) (by omega), show fX12_in (nI l) 0 (nI (nL - 1)) = 1 from in_ok (lo := 0) (Nat.zero_le _) (by omega) (by omega)] at e2
        exact one_ne e2
    rw [e1]
    simp only [bd_s, oc_S, nm_q, nI_clamp (show l < 2 ^ 31 by omega), ix_n (show l < 200 by omega) (show 200 < 2 ^ 31 by omega)]
    rw [if_neg (show ¬ nI 1 = 0 by decide), if_neg (show ¬ nI 1 = 0 by decide), if_pos (show nI 1 = 1 from rfl), if_pos (show nI 1 = 1 from rfl)]
    have hC : EqOff [404] C (msI C 404 l 0 (nI x)) := EqOff.refl.I rfl
    have hM : EqOff [6200] M (msI M 6200 0 l (nI x)) := EqOff.refl.I rfl
    have hCt := hC.txC rfl
    have hMt := hM.txM rfl
    refine ⟨_, _, rfl, rfl, ?_, hC.wide rfl, hM.wide rfl⟩
    have g3 : f_l4 (msI C 404 l 0 (nI x)) (msI M 6200 0 l (nI x)) nS nL := fun t ht => by
      simp only [mgI_I, mgL_L, mgR_R, mgI_L, mgI_R, mgL_I, mgL_R, mgR_I, mgR_L, Nat.reduceEqDiff, false_and, and_false, true_and, and_true, ↓reduceIte]
      by_cases e : t = l
      · rw [if_pos e, if_pos e]
      · rw [if_neg e, if_neg e]; exact sm_l4 h t ht
    have gW : f_vE C (msI M 6200 0 l (nI x)) nS nL := fun t ht => by
      simp only [mgI_I, mgL_L, mgR_R, mgI_L, mgI_R, mgL_I, mgL_R, mgR_I, mgR_L, Nat.reduceEqDiff, false_and, and_false, true_and, and_true, ↓reduceIte]
      by_cases e : t = l
      · rw [if_pos e]; exact ⟨x, x2, rfl⟩
      · rw [if_neg e]; exact sm_vE h t ht
    exact ⟨fr_b1 (sm_b1 h),
    fr_c1 (hC.on rfl)  (sm_c1 h),
    fr_c2  (hM.on rfl) (sm_c2 h),
    fr_r1 (hC.on rfl)  (sm_r1 h),
    fr_r2 (hC.on rfl)  (sm_r2 h),
    fr_s0 (hC.on rfl)  (sm_s0 h),
    fr_sK (hC.on rfl) (hM.on rfl) (sm_sK h),
    fr_sM (hC.on rfl) (hM.on rfl) (sm_sM h),
    fr_sA (hC.on rfl) (hM.on rfl) (sm_sA h),
    fr_sB (hC.on rfl) (hM.on rfl) (sm_sB h),
    fr_sI (hC.on rfl) (hM.on rfl) (sm_sI h),
    fr_sW (hC.on rfl) (hM.on rfl) (sm_sW h),
    fr_sP (hC.on rfl) (hM.on rfl) (sm_sP h),
    fr_sH (hC.on rfl) (hM.on rfl) (sm_sH h),
    fr_sT (hC.on rfl) (hM.on rfl) (sm_sT h),
    fr_vK  (hM.on rfl) (sm_vK h),
    fr_vB  (hM.on rfl) (sm_vB h),
    fr_n1  (hM.on rfl) (sm_n1 h),
    fr_n2 (hC.on rfl) (hM.on rfl) (sm_n2 h),
    fr_vM  (hM.on rfl) (sm_vM h),
    fr_vT  (hM.on rfl) (sm_vT h),
    fr_tB (hC.on rfl) (hM.on rfl) (sm_tB h),
    fr_vJ  (hM.on rfl) (sm_vJ h),
    fr_vH  (hM.on rfl) (sm_vH h),
    fr_l0 (hC.on rfl) (hM.on rfl) (sm_l0 h),
    fr_l1 (hC.on rfl) (hM.on rfl) (sm_l1 h),
    fr_l3 (hC.on rfl) (hM.on rfl) (sm_l3 h),
    g3,
    fr_l5 (hC.on rfl) (hM.on rfl) (sm_l5 h),
    fr_vL  (hM.on rfl) (sm_vL h),
    fr_vW  (hM.on rfl) (sm_vW h),
    gW,
    fr_vD  (hM.on rfl) (sm_vD h),
    fr_h1 (hC.on rfl) (hM.on rfl) (sm_h1 h),
    fr_h2 (hC.on rfl) (hM.on rfl) (sm_h2 h),
    fr_h3 (hC.on rfl) (hM.on rfl) (sm_h3 h),
    fr_h4 (hC.on rfl) (hM.on rfl) (sm_h4 h),
    fr_h5 (hC.on rfl) (hM.on rfl) (sm_h5 h),
    fr_z1  (hM.on rfl) (sm_z1 h),
    fr_z2  (hM.on rfl) (sm_z2 h),
    fr_z3  (hM.on rfl) (sm_z3 h),
    fr_e1 (hC.on rfl) (hM.on rfl) (sm_e1 h),
    fr_e2  (hM.on rfl) (sm_e2 h),
    fr_e3 (hC.on rfl) (hM.on rfl) (sm_e3 h),
    fr_o1  (hM.on rfl) (sm_o1 h),
    fr_o2 (hC.on rfl) (hM.on rfl) (sm_o2 h),
    fr_o3 (hC.on rfl) (hM.on rfl) (sm_o3 h),
    fr_o4 (hC.on rfl) (hM.on rfl) (sm_o4 h),
    fr_o5 (hC.on rfl) (hM.on rfl) (sm_o5 h),
    fr_o6  (hM.on rfl) (sm_o6 h),
    fr_g1 (hC.on rfl) (hM.on rfl) (sm_g1 h),
    fr_d1 (hC.on rfl) (hM.on rfl) (sm_d1 h),
    fr_t1 (hC.on rfl) (hM.on rfl) (sm_t1 h),
    fr_x1 hCt hMt (sm_x1 h),
    fr_a1 (hC.on rfl) (hM.on rfl) (sm_a1 h),
    fr_a2 (hC.on rfl) (hM.on rfl) (sm_a2 h),
    fr_p1 (hC.on rfl) (hM.on rfl) (sm_p1 h),
    fr_p2 (hC.on rfl) (hM.on rfl) (sm_p2 h)⟩
  · have e1 : fX2_isCopy (nI c) C = 1 := by
      unfold fX2_isCopy
      rw [c0, if_neg (nI_pos (by omega)), if_neg (nI_ge (by omega) (by omega))]
    obtain ⟨o, e0⟩ : ∃ o, fX5_lineAt (nI c) C = some o := by
      rcases ln_c h (nI c) with ⟨s, -, -, -, e1, -⟩ | ⟨e1, -⟩ <;> exact ⟨_, e1⟩
    rw [e0, e1]
    simp only [bd_s, nm_q, nI_clamp (show c < 2 ^ 31 by omega), ix_n (show c < 60 by omega) (show 60 < 2 ^ 31 by omega)]
    rw [if_neg (show ¬ nI 2 = 0 by decide), if_neg (show ¬ nI 2 = 0 by decide), if_neg (show ¬ nI 2 = 1 by decide), if_neg (show ¬ nI 2 = 1 by decide), if_pos (show nI 2 = 2 from rfl), if_neg one_ne]
    have hC : EqOff [2500] C (msI C 2500 0 c b) := EqOff.refl.I rfl
    have hM : EqOff [8600] M (msI M 8600 0 c b) := EqOff.refl.I rfl
    have hCt := hC.txC rfl
    have hMt := hM.txM rfl
    refine ⟨_, _, rfl, rfl, ?_, hC.wide rfl, hM.wide rfl⟩
    have g3 : f_o5 (msI C 2500 0 c b) (msI M 8600 0 c b) nS nL := fun t ht => by
      simp only [mgI_I, mgL_L, mgR_R, mgI_L, mgI_R, mgL_I, mgL_R, mgR_I, mgR_L, Nat.reduceEqDiff, false_and, and_false, true_and, and_true, ↓reduceIte] at ht ⊢
      by_cases e : t = c
      · rw [if_pos e, if_pos e]
      · rw [if_neg e, if_neg e]; exact sm_o5 h t ht
    exact ⟨fr_b1 (sm_b1 h),
    fr_c1 (hC.on rfl)  (sm_c1 h),
    fr_c2  (hM.on rfl) (sm_c2 h),
    fr_r1 (hC.on rfl)  (sm_r1 h),
    fr_r2 (hC.on rfl)  (sm_r2 h),
    fr_s0 (hC.on rfl)  (sm_s0 h),
    fr_sK (hC.on rfl) (hM.on rfl) (sm_sK h),
    fr_sM (hC.on rfl) (hM.on rfl) (sm_sM h),
    fr_sA (hC.on rfl) (hM.on rfl) (sm_sA h),
    fr_sB (hC.on rfl) (hM.on rfl) (sm_sB h),
    fr_sI (hC.on rfl) (hM.on rfl) (sm_sI h),
    fr_sW (hC.on rfl) (hM.on rfl) (sm_sW h),
    fr_sP (hC.on rfl) (hM.on rfl) (sm_sP h),
    fr_sH (hC.on rfl) (hM.on rfl) (sm_sH h),
    fr_sT (hC.on rfl) (hM.on rfl) (sm_sT h),
    fr_vK  (hM.on rfl) (sm_vK h),
    fr_vB  (hM.on rfl) (sm_vB h),
    fr_n1  (hM.on rfl) (sm_n1 h),
    fr_n2 (hC.on rfl) (hM.on rfl) (sm_n2 h),
    fr_vM  (hM.on rfl) (sm_vM h),
    fr_vT  (hM.on rfl) (sm_vT h),
    fr_tB (hC.on rfl) (hM.on rfl) (sm_tB h),
    fr_vJ  (hM.on rfl) (sm_vJ h),
    fr_vH  (hM.on rfl) (sm_vH h),
    fr_l0 (hC.on rfl) (hM.on rfl) (sm_l0 h),
    fr_l1 (hC.on rfl) (hM.on rfl) (sm_l1 h),
    fr_l3 (hC.on rfl) (hM.on rfl) (sm_l3 h),
    fr_l4 (hC.on rfl) (hM.on rfl) (sm_l4 h),
    fr_l5 (hC.on rfl) (hM.on rfl) (sm_l5 h),
    fr_vL  (hM.on rfl) (sm_vL h),
    fr_vW  (hM.on rfl) (sm_vW h),
    fr_vE  (hM.on rfl) (sm_vE h),
    fr_vD  (hM.on rfl) (sm_vD h),
    fr_h1 (hC.on rfl) (hM.on rfl) (sm_h1 h),
    fr_h2 (hC.on rfl) (hM.on rfl) (sm_h2 h),
    fr_h3 (hC.on rfl) (hM.on rfl) (sm_h3 h),
    fr_h4 (hC.on rfl) (hM.on rfl) (sm_h4 h),
    fr_h5 (hC.on rfl) (hM.on rfl) (sm_h5 h),
    fr_z1  (hM.on rfl) (sm_z1 h),
    fr_z2  (hM.on rfl) (sm_z2 h),
    fr_z3  (hM.on rfl) (sm_z3 h),
    fr_e1 (hC.on rfl) (hM.on rfl) (sm_e1 h),
    fr_e2  (hM.on rfl) (sm_e2 h),
    fr_e3 (hC.on rfl) (hM.on rfl) (sm_e3 h),
    fr_o1  (hM.on rfl) (sm_o1 h),
    fr_o2 (hC.on rfl) (hM.on rfl) (sm_o2 h),
    fr_o3 (hC.on rfl) (hM.on rfl) (sm_o3 h),
    fr_o4 (hC.on rfl) (hM.on rfl) (sm_o4 h),
    g3,
    fr_o6  (hM.on rfl) (sm_o6 h),
    fr_g1 (hC.on rfl) (hM.on rfl) (sm_g1 h),
    fr_d1 (hC.on rfl) (hM.on rfl) (sm_d1 h),
    fr_t1 (hC.on rfl) (hM.on rfl) (sm_t1 h),
    fr_x1 hCt hMt (sm_x1 h),
    fr_a1 (hC.on rfl) (hM.on rfl) (sm_a1 h),
    fr_a2 (hC.on rfl) (hM.on rfl) (sm_a2 h),
    fr_p1 (hC.on rfl) (hM.on rfl) (sm_p1 h),
    fr_p2 (hC.on rfl) (hM.on rfl) (sm_p2 h)⟩
/-- the places of changes move, nothing else -/
theorem ix_sim {C M : Mem} {nS nL : Nat} (h : Sim C M nS nL) {d u d' u' : Nat} (e1 : mgI M 1224 0 0 = nI d) (e2 : mgI M 1225 0 0 = nI u) (hdu : d + u ≤ 40) (hq : d' + u' = d + u) : Sim (msI C 100 0 0 (nI d')) (msI (msI M 1224 0 0 (nI d')) 1225 0 0 (nI u')) nS nL := by
  have hC : EqOff [100] C (msI C 100 0 0 (nI d')) := EqOff.refl.I rfl
  have hM : EqOff [1224, 1225] M (msI (msI M 1224 0 0 (nI d')) 1225 0 0 (nI u')) := (EqOff.refl.I rfl).I rfl
  have hCt := hC.txC rfl
  have hMt := hM.txM rfl
  have g : f_g1 (msI C 100 0 0 (nI d')) (msI (msI M 1224 0 0 (nI d')) 1225 0 0 (nI u')) nS nL := by
    obtain ⟨a, b, q1, q2, q3, q4, q5, q6, q7⟩ := sm_g1 h
    have ea : a = d := (nI_eq (by omega) (by omega)).mp (q2.symm.trans e1)
    have eb : b = u := (nI_eq (by omega) (by omega)).mp (q3.symm.trans e2)
    subst ea eb
    refine ⟨d', u', by omega, by simp only [mgI_I, mgL_L, mgR_R, mgI_L, mgI_R, mgL_I, mgL_R, mgR_I, mgR_L, Nat.reduceEqDiff, false_and, and_false, true_and, and_true, ↓reduceIte], by simp only [mgI_I, mgL_L, mgR_R, mgI_L, mgI_R, mgL_I, mgL_R, mgR_I, mgR_L, Nat.reduceEqDiff, false_and, and_false, true_and, and_true, ↓reduceIte], by simp only [mgI_I, mgL_L, mgR_R, mgI_L, mgI_R, mgL_I, mgL_R, mgR_I, mgR_L, Nat.reduceEqDiff, false_and, and_false, true_and, and_true, ↓reduceIte], ?_, fun k hk => ?_, fun k hk => ?_⟩
    · simp only [mgI_I, mgL_L, mgR_R, mgI_L, mgI_R, mgL_I, mgL_R, mgR_I, mgR_L, Nat.reduceEqDiff, false_and, and_false, true_and, and_true, ↓reduceIte]
      rw [hq]
      exact q5
    · simp only [mgI_I, mgL_L, mgR_R, mgI_L, mgI_R, mgL_I, mgL_R, mgR_I, mgR_L, Nat.reduceEqDiff, false_and, and_false, true_and, and_true, ↓reduceIte]
      exact q6 k (by omega)
    · simp only [mgI_I, mgL_L, mgR_R, mgI_L, mgI_R, mgL_I, mgL_R, mgR_I, mgR_L, Nat.reduceEqDiff, false_and, and_false, true_and, and_true, ↓reduceIte]
      exact q7 k (by omega)
  exact ⟨fr_b1 (sm_b1 h),
    fr_c1 (hC.on rfl)  (sm_c1 h),
    fr_c2  (hM.on rfl) (sm_c2 h),
    fr_r1 (hC.on rfl)  (sm_r1 h),
    fr_r2 (hC.on rfl)  (sm_r2 h),
    fr_s0 (hC.on rfl)  (sm_s0 h),
    fr_sK (hC.on rfl) (hM.on rfl) (sm_sK h),
    fr_sM (hC.on rfl) (hM.on rfl) (sm_sM h),
    fr_sA (hC.on rfl) (hM.on rfl) (sm_sA h),
    fr_sB (hC.on rfl) (hM.on rfl) (sm_sB h),
    fr_sI (hC.on rfl) (hM.on rfl) (sm_sI h),
    fr_sW (hC.on rfl) (hM.on rfl) (sm_sW h),
    fr_sP (hC.on rfl) (hM.on rfl) (sm_sP h),
    fr_sH (hC.on rfl) (hM.on rfl) (sm_sH h),
    fr_sT (hC.on rfl) (hM.on rfl) (sm_sT h),
    fr_vK  (hM.on rfl) (sm_vK h),
    fr_vB  (hM.on rfl) (sm_vB h),
    fr_n1  (hM.on rfl) (sm_n1 h),
    fr_n2 (hC.on rfl) (hM.on rfl) (sm_n2 h),
    fr_vM  (hM.on rfl) (sm_vM h),
    fr_vT  (hM.on rfl) (sm_vT h),
    fr_tB (hC.on rfl) (hM.on rfl) (sm_tB h),
    fr_vJ  (hM.on rfl) (sm_vJ h),
    fr_vH  (hM.on rfl) (sm_vH h),
    fr_l0 (hC.on rfl) (hM.on rfl) (sm_l0 h),
    fr_l1 (hC.on rfl) (hM.on rfl) (sm_l1 h),
    fr_l3 (hC.on rfl) (hM.on rfl) (sm_l3 h),
    fr_l4 (hC.on rfl) (hM.on rfl) (sm_l4 h),
    fr_l5 (hC.on rfl) (hM.on rfl) (sm_l5 h),
    fr_vL  (hM.on rfl) (sm_vL h),
    fr_vW  (hM.on rfl) (sm_vW h),
    fr_vE  (hM.on rfl) (sm_vE h),
    fr_vD  (hM.on rfl) (sm_vD h),
    fr_h1 (hC.on rfl) (hM.on rfl) (sm_h1 h),
    fr_h2 (hC.on rfl) (hM.on rfl) (sm_h2 h),
    fr_h3 (hC.on rfl) (hM.on rfl) (sm_h3 h),
    fr_h4 (hC.on rfl) (hM.on rfl) (sm_h4 h),
    fr_h5 (hC.on rfl) (hM.on rfl) (sm_h5 h),
    fr_z1  (hM.on rfl) (sm_z1 h),
    fr_z2  (hM.on rfl) (sm_z2 h),
    fr_z3  (hM.on rfl) (sm_z3 h),
    fr_e1 (hC.on rfl) (hM.on rfl) (sm_e1 h),
    fr_e2  (hM.on rfl) (sm_e2 h),
    fr_e3 (hC.on rfl) (hM.on rfl) (sm_e3 h),
    fr_o1  (hM.on rfl) (sm_o1 h),
    fr_o2 (hC.on rfl) (hM.on rfl) (sm_o2 h),
    fr_o3 (hC.on rfl) (hM.on rfl) (sm_o3 h),
    fr_o4 (hC.on rfl) (hM.on rfl) (sm_o4 h),
    fr_o5 (hC.on rfl) (hM.on rfl) (sm_o5 h),
    fr_o6  (hM.on rfl) (sm_o6 h),
    g,
    fr_d1 (hC.on rfl) (hM.on rfl) (sm_d1 h),
    fr_t1 (hC.on rfl) (hM.on rfl) (sm_t1 h),
    fr_x1 hCt hMt (sm_x1 h),
    fr_a1 (hC.on rfl) (hM.on rfl) (sm_a1 h),
    fr_a2 (hC.on rfl) (hM.on rfl) (sm_a2 h),
    fr_p1 (hC.on rfl) (hM.on rfl) (sm_p1 h),
    fr_p2 (hC.on rfl) (hM.on rfl) (sm_p2 h)⟩
theorem qs_undo {C M : Mem} {nS nL : Nat} (h : Sim C M nS nL) : QA nS nL (fX11_undo C) (fX12_undo M) := by
  obtain ⟨d, u, q1, q2, q3, q4, q5, q6, q7⟩ := sm_g1 h
  unfold fX11_undo fX12_undo fX1_goBack
  rw [q4, q2]
  rcases Nat.eq_zero_or_pos d with h0 | h0
  · subst h0
    rw [if_neg (show ¬ (0 : Int32) < nI 0 by decide), if_pos (show nI 0 = 0 from rfl)]
    exact QA_same h rfl rfl
  · rw [if_pos (show (0 : Int32) < nI d from nI_lt (a := 0) h0 (by omega)), if_neg (nI_ne0 h0 (by omega))]
    have hs := ix_sim h q2 q3 q1 (d' := d - 1) (u' := u + 1) (by omega)
    simp only [nm_q, show nI d - (1 : Int32) = nI (d - 1) from pk_sub (b := 1) h0, mgI_I, mgL_L, mgR_R, mgI_L, mgI_R, mgL_I, mgL_R, mgR_I, mgR_L, Nat.reduceEqDiff, false_and, and_false, true_and, and_true, ↓reduceIte, q3, nI_1, ix_n (show d - 1 < 40 by omega) (show 40 < 2 ^ 31 by omega), nI_clamp (show d - 1 < 2 ^ 31 by omega)]
    have r := q6 (d - 1) (by omega)
    rw [r.1, r.2.1, r.2.2.1]
    obtain ⟨C', M', s1, s2, s3, s4, s5⟩ := set_q hs (w := mgI M 7000 0 (d - 1)) (a := mgI M 7100 0 (d - 1)) (b := mgI M 7200 0 (d - 1)) (by simp only [mgI_I, mgL_L, mgR_R, mgI_L, mgI_R, mgL_I, mgL_R, mgR_I, mgR_L, Nat.reduceEqDiff, false_and, and_false, true_and, and_true, ↓reduceIte]; exact (q7 (d - 1) (by omega)).1)
    rw [s1, s2]
    simp only [bE_s]
    rw [if_neg one_ne]
    refine ⟨_, _, _, rfl, ?_, s3⟩
    rw [(s4.on (K := [100]) rfl 100 (by decide)).1, (s5.on (K := [1224]) rfl 1224 (by decide)).1]
    simp only [mgI_I, mgL_L, mgR_R, mgI_L, mgI_R, mgL_I, mgL_R, mgR_I, mgR_L, Nat.reduceEqDiff, false_and, and_false, true_and, and_true, ↓reduceIte]
theorem qs_redo {C M : Mem} {nS nL : Nat} (h : Sim C M nS nL) : QA nS nL (fX11_redo C) (fX12_redo M) := by
  obtain ⟨d, u, q1, q2, q3, q4, q5, q6, q7⟩ := sm_g1 h
  unfold fX11_redo fX12_redo fX1_goOn
  rw [q4, q5, q2, q3]
  rcases Nat.eq_zero_or_pos u with h0 | h0
  · subst h0
    rw [if_pos (show nI (d + 0) ≤ nI d from nI_le (Nat.le_refl _) (by omega)), if_pos (show nI 0 = 0 from rfl)]
    exact QA_same h rfl rfl
  · rw [if_neg (nI_ge (by omega) (by omega)), if_pos (show nI d < 40 from nI_lt (b := 40) (by omega) (by decide)), if_neg (nI_ne0 h0 (by omega))]
    simp only [ix_n (show d < 40 by omega) (show 40 < 2 ^ 31 by omega), nI_clamp (show d < 2 ^ 31 by omega)]
    have r := q6 d (by omega)
    rw [r.1, r.2.1, r.2.2.2]
    obtain ⟨C', M', s1, s2, s3, s4, s5⟩ := set_q h (q7 d (by omega)).2
    rw [s1, s2]
    have k4 := s4.on (K := [100, 101]) rfl
    have k5 := s5.on (K := [1224, 1225]) rfl
    have e1 : mgI M' 1224 0 0 = nI d := by rw [(k5 1224 (by decide)).1]; exact q2
    have e2 : mgI M' 1225 0 0 = nI u := by rw [(k5 1225 (by decide)).1]; exact q3
    have e3 : mgI C' 100 0 0 = nI d := by rw [(k4 100 (by decide)).1]; exact q4
    have e4 : mgI C' 101 0 0 = nI (d + u) := by rw [(k4 101 (by decide)).1]; exact q5
    simp only [bE_s, nm_q, mgI_I, mgL_L, mgR_R, mgI_L, mgI_R, mgL_I, mgL_R, mgR_I, mgR_L, Nat.reduceEqDiff, false_and, and_false, true_and, and_true, ↓reduceIte, e1, e2, e3, e4, nI_1]
    rw [if_neg one_ne, show nI (d + u) - nI (d + 1) = nI (u - 1) by rw [pk_sub (by omega)]; congr 1; omega, show nI u - (1 : Int32) = nI (u - 1) from pk_sub (b := 1) h0]
    exact ⟨_, _, _, rfl, rfl, ix_sim s3 e1 e2 q1 (by omega)⟩
/-- the oldest change is forgotten: the component -/
theorem fo_q (C : Mem) : ∃ C1, fX1_forgetOldest C = some ((), C1) ∧ EqOff [100, 2100, 2200, 2300, 2400] C C1 ∧ mgI C1 100 0 0 = nI 39 ∧ ∀ f, (f = 2100 ∨ f = 2200 ∨ f = 2300 ∨ f = 2400) → ∀ k, k < 39 → mgI C1 f 0 k = mgI C f 0 (k + 1) := by
  have H := lpR (fun n i (C1 : Mem) => fX1_forgetOldest_l2 n (nI i) C1) (fun r => EqOff [100, 2100, 2200, 2300, 2400] C r.2 ∧ mgI r.2 100 0 0 = nI 39 ∧ ∀ f, (f = 2100 ∨ f = 2200 ∨ f = 2300 ∨ f = 2400) → ∀ k, k < 39 → mgI r.2 f 0 k = mgI C f 0 (k + 1)) 40
    (fun i C1 => 1 ≤ i ∧ EqOff [100, 2100, 2200, 2300, 2400] C C1 ∧ ∀ f, (f = 2100 ∨ f = 2200 ∨ f = 2300 ∨ f = 2400) → ∀ k, mgI C1 f 0 k = if k + 1 < i then mgI C f 0 (k + 1) else mgI C f 0 k)
    (fun n C1 hI => by
      simp only [fX1_forgetOldest_l2, fX1_forgetOldest_b2, nm_q]
      rw [if_pos (show (40 : Int32) ≤ nI 40 from nI_le (a := 40) (by omega) (by omega))]
      refine Rt_s ⟨hI.2.1.I rfl, by simp only [mgI_I, mgL_L, mgR_R, mgI_L, mgI_R, mgL_I, mgL_R, mgR_I, mgR_L, Nat.reduceEqDiff, false_and, and_false, true_and, and_true, ↓reduceIte]; rfl, fun f hf k hk => ?_⟩
      have := hI.2.2 f hf k
      rw [if_pos (by omega)] at this
      rcases hf with rfl | rfl | rfl | rfl <;> · simp only [mgI_I, mgL_L, mgR_R, mgI_L, mgI_R, mgL_I, mgL_R, mgR_I, mgR_L, Nat.reduceEqDiff, false_and, and_false, true_and, and_true, ↓reduceIte]; exact this)
    (fun n i C1 hi hI k => by
      simp only [fX1_forgetOldest_l2, fX1_forgetOldest_b2, nm_q, mgI_I, mgL_L, mgR_R, mgI_L, mgI_R, mgL_I, mgL_R, mgR_I, mgR_L, Nat.reduceEqDiff, false_and, and_false, true_and, and_true, ↓reduceIte]
      rw [if_neg (show ¬ (40 : Int32) ≤ nI i from nI_ge (b := 40) (by omega) (by omega)), show nI i - (1 : Int32) = nI (i - 1) from pk_sub (b := 1) hI.1]
      simp only [ix_n (show i < 40 by omega) (show 40 < 2 ^ 31 by omega), ix_n (show i - 1 < 40 by omega) (show 40 < 2 ^ 31 by omega), nI_clamp (show i < 2 ^ 31 by omega), nI_clamp (show i - 1 < 2 ^ 31 by omega), nI_1]
      refine k _ ⟨by omega, ((((hI.2.1.I rfl).I rfl).I rfl).I rfl), fun f hf j => ?_⟩
      have hj := hI.2.2 f hf j
      have hi2 := hI.2.2 f hf i
      rw [if_neg (by omega)] at hi2
      have hw : ∀ v : Int32, v = mgI C1 f 0 i → (if j = i - 1 then v else mgI C1 f 0 j) = if j + 1 < i + 1 then mgI C f 0 (j + 1) else mgI C f 0 j := fun v hv => by
        by_cases e : j = i - 1
        · rw [if_pos e, if_pos (by omega), hv, hi2]
          congr 1
          omega
        · rw [if_neg e, hj]
          by_cases e2 : j + 1 < i
          · rw [if_pos e2, if_pos (by omega)]
          · rw [if_neg e2, if_neg (by omega)]
      rcases hf with rfl | rfl | rfl | rfl <;> · simp only [mgI_I, mgL_L, mgR_R, mgI_L, mgI_R, mgL_I, mgL_R, mgR_I, mgR_L, Nat.reduceEqDiff, false_and, and_false, true_and, and_true, ↓reduceIte]; exact hw _ rfl)
    FU 1 C (by omega) ⟨Nat.le_refl _, EqOff.refl, fun f hf k => by rw [if_neg (by omega)]⟩ (by have := FU_lt (N := 1000) (by omega); omega)
  obtain ⟨r, e, h⟩ := H
  exact ⟨r.2, e, h⟩
def PushC (C C2 : Mem) (d : Nat) (w a v b : Int32) : Prop := EqOff [100, 101, 2100, 2200, 2300, 2400] C C2 ∧ mgI C2 100 0 0 = nI (d - d / 40 + 1) ∧ mgI C2 101 0 0 = nI (d - d / 40 + 1) ∧
  (∀ f, (f = 2100 ∨ f = 2200 ∨ f = 2300 ∨ f = 2400) → ∀ k, k < d - d / 40 → mgI C2 f 0 k = mgI C f 0 (k + d / 40)) ∧ mgI C2 2100 0 (d - d / 40) = w ∧ mgI C2 2200 0 (d - d / 40) = a ∧ mgI C2 2300 0 (d - d / 40) = v ∧ mgI C2 2400 0 (d - d / 40) = b
def PushM (C C2 : Mem) (d : Nat) (w a v b : Int32) : Prop := EqOff [1224, 1225, 7000, 7100, 7200, 7300] C C2 ∧ mgI C2 1224 0 0 = nI (d - d / 40 + 1) ∧ mgI C2 1225 0 0 = nI 0 ∧
  (∀ f, (f = 7000 ∨ f = 7100 ∨ f = 7200 ∨ f = 7300) → ∀ k, k < d - d / 40 → mgI C2 f 0 k = mgI C f 0 (k + d / 40)) ∧ mgI C2 7000 0 (d - d / 40) = w ∧ mgI C2 7100 0 (d - d / 40) = a ∧ mgI C2 7200 0 (d - d / 40) = v ∧ mgI C2 7300 0 (d - d / 40) = b
theorem mk_q (C : Mem) {d : Nat} (hd : d ≤ 40) (e : mgI C 100 0 0 = nI d) (w a v b : Int32) (hb : ¬ b = v) : ∃ C2, PushC C C2 d w a v b ∧ fX1_make w a v b C = bE (fX1_set w a b C2) fun _ C3 => some ((), C3) := by
  unfold fX1_make
  rw [if_neg hb, e]
  by_cases h4 : d = 40
  · subst h4
    rw [if_neg (by decide)]
    obtain ⟨C1, e1, e2, e3, e4⟩ := fo_q C
    rw [e1]
    simp only [bE_s, nm_q, mgI_I, mgL_L, mgR_R, mgI_L, mgI_R, mgL_I, mgL_R, mgR_I, mgR_L, Nat.reduceEqDiff, false_and, and_false, true_and, and_true, ↓reduceIte, e3, ix_n (show 39 < 40 by omega) (show 40 < 2 ^ 31 by omega), nI_clamp (show 39 < 2 ^ 31 by omega), nI_1]
    refine ⟨_, ⟨EqOff.trans (e2.wide rfl) ((((((EqOff.refl.I rfl).I rfl).I rfl).I rfl).I rfl).I rfl), by simp only [mgI_I, mgL_L, mgR_R, mgI_L, mgI_R, mgL_I, mgL_R, mgR_I, mgR_L, Nat.reduceEqDiff, false_and, and_false, true_and, and_true, ↓reduceIte], by simp only [mgI_I, mgL_L, mgR_R, mgI_L, mgI_R, mgL_I, mgL_R, mgR_I, mgR_L, Nat.reduceEqDiff, false_and, and_false, true_and, and_true, ↓reduceIte], fun f hf k hk => ?_, by simp only [mgI_I, mgL_L, mgR_R, mgI_L, mgI_R, mgL_I, mgL_R, mgR_I, mgR_L, Nat.reduceEqDiff, false_and, and_false, true_and, and_true, ↓reduceIte], by simp only [mgI_I, mgL_L, mgR_R, mgI_L, mgI_R, mgL_I, mgL_R, mgR_I, mgR_L, Nat.reduceEqDiff, false_and, and_false, true_and, and_true, ↓reduceIte], by simp only [mgI_I, mgL_L, mgR_R, mgI_L, mgI_R, mgL_I, mgL_R, mgR_I, mgR_L, Nat.reduceEqDiff, false_and, and_false, true_and, and_true, ↓reduceIte], by simp only [mgI_I, mgL_L, mgR_R, mgI_L, mgI_R, mgL_I, mgL_R, mgR_I, mgR_L, Nat.reduceEqDiff, false_and, and_false, true_and, and_true, ↓reduceIte]⟩, rfl⟩
    have := e4 f hf k hk
    have hk2 : ¬ k = 39 := by have : k < 39 := hk; omega
    rcases hf with rfl | rfl | rfl | rfl <;> · simp only [mgI_I, mgL_L, mgR_R, mgI_L, mgI_R, mgL_I, mgL_R, mgR_I, mgR_L, Nat.reduceEqDiff, false_and, and_false, true_and, and_true, ↓reduceIte, if_neg hk2]; exact this
  · have hd0 : d / 40 = 0 := by omega
    rw [if_pos (show nI d < 40 from nI_lt (b := 40) (by omega) (by decide))]
    simp only [nm_q, mgI_I, mgL_L, mgR_R, mgI_L, mgI_R, mgL_I, mgL_R, mgR_I, mgR_L, Nat.reduceEqDiff, false_and, and_false, true_and, and_true, ↓reduceIte, e, ix_n (show d < 40 by omega) (show 40 < 2 ^ 31 by omega), nI_clamp (show d < 2 ^ 31 by omega), nI_1]
    unfold PushC
    rw [hd0, Nat.sub_zero]
    refine ⟨_, ⟨(((((EqOff.refl.I rfl).I rfl).I rfl).I rfl).I rfl).I rfl, by simp only [mgI_I, mgL_L, mgR_R, mgI_L, mgI_R, mgL_I, mgL_R, mgR_I, mgR_L, Nat.reduceEqDiff, false_and, and_false, true_and, and_true, ↓reduceIte], by simp only [mgI_I, mgL_L, mgR_R, mgI_L, mgI_R, mgL_I, mgL_R, mgR_I, mgR_L, Nat.reduceEqDiff, false_and, and_false, true_and, and_true, ↓reduceIte], fun f hf k hk => ?_, by simp only [mgI_I, mgL_L, mgR_R, mgI_L, mgI_R, mgL_I, mgL_R, mgR_I, mgR_L, Nat.reduceEqDiff, false_and, and_false, true_and, and_true, ↓reduceIte], by simp only [mgI_I, mgL_L, mgR_R, mgI_L, mgI_R, mgL_I, mgL_R, mgR_I, mgR_L, Nat.reduceEqDiff, false_and, and_false, true_and, and_true, ↓reduceIte], by simp only [mgI_I, mgL_L, mgR_R, mgI_L, mgI_R, mgL_I, mgL_R, mgR_I, mgR_L, Nat.reduceEqDiff, false_and, and_false, true_and, and_true, ↓reduceIte], by simp only [mgI_I, mgL_L, mgR_R, mgI_L, mgI_R, mgL_I, mgL_R, mgR_I, mgR_L, Nat.reduceEqDiff, false_and, and_false, true_and, and_true, ↓reduceIte]⟩, rfl⟩
    have hk2 : ¬ k = d := by omega
    rcases hf with rfl | rfl | rfl | rfl <;> · simp only [mgI_I, mgL_L, mgR_R, mgI_L, mgI_R, mgL_I, mgL_R, mgR_I, mgR_L, Nat.reduceEqDiff, false_and, and_false, true_and, and_true, ↓reduceIte, if_neg hk2]; rfl
theorem mc_l (M : Mem) (w a v b : Int32) (e : mgI M 1224 0 0 = nI 40) (hu : mgI M 1225 0 0 = nI 0) (hset : ∀ M2, ∃ M3, fX12_set w a b M2 = some ((), M3)) : ∃ M2, PushM M M2 40 w a v b ∧ fX12_changes_l61 w a v b FU (1 : Int32) M = bE (fX12_set w a b M2) fun _ M3 => some (v, M3) := by
  have H := lpR (fun n i (M1 : Mem) => fX12_changes_l61 w a v b n (nI i) M1) (fun r => ∃ M2, PushM M M2 40 w a v b ∧ some r = bE (fX12_set w a b M2) fun _ M3 => some (v, M3)) 40
    (fun i M1 => 1 ≤ i ∧ EqOff [7000, 7100, 7200, 7300] M M1 ∧ ∀ f, (f = 7000 ∨ f = 7100 ∨ f = 7200 ∨ f = 7300) → ∀ k, mgI M1 f 0 k = if k + 1 < i then mgI M f 0 (k + 1) else mgI M f 0 k)
    (fun n M1 hI => by
      have e1 : mgI M1 1224 0 0 = nI 40 := by rw [(hI.2.1.on (K := [1224]) rfl 1224 (by decide)).1]; exact e
      have e2 : mgI M1 1225 0 0 = nI 0 := by rw [(hI.2.1.on (K := [1225]) rfl 1225 (by decide)).1]; exact hu
      simp only [fX12_changes_l61, fX12_changes_b61, nm_q, mgI_I, mgL_L, mgR_R, mgI_L, mgI_R, mgL_I, mgL_R, mgR_I, mgR_L, Nat.reduceEqDiff, false_and, and_false, true_and, and_true, ↓reduceIte, e1]
      rw [if_pos (show (40 : Int32) ≤ nI 40 from nI_le (a := 40) (by omega) (by omega)), show nI 40 - (1 : Int32) = nI 39 from pk_sub (a := 40) (b := 1) (by omega)]
      simp only [ix_n (show 39 < 40 by omega) (show 40 < 2 ^ 31 by omega), nI_clamp (show 39 < 2 ^ 31 by omega), nI_1]
      generalize hM2 : msI (msI (msI (msI (msI (msI M1 1224 0 0 (nI 39)) 7000 0 39 w) 7100 0 39 a) 7200 0 39 v) 7300 0 39 b) 1224 0 0 (nI (39 + 1)) = M2
      obtain ⟨M3, e3⟩ := hset M2
      refine ⟨(v, M3), by rw [e3]; rfl, M2, ⟨?_, by subst hM2; simp only [mgI_I, mgL_L, mgR_R, mgI_L, mgI_R, mgL_I, mgL_R, mgR_I, mgR_L, Nat.reduceEqDiff, false_and, and_false, true_and, and_true, ↓reduceIte], by subst hM2; simp only [mgI_I, mgL_L, mgR_R, mgI_L, mgI_R, mgL_I, mgL_R, mgR_I, mgR_L, Nat.reduceEqDiff, false_and, and_false, true_and, and_true, ↓reduceIte]; exact e2, fun f hf k hk => ?_, by subst hM2; simp only [mgI_I, mgL_L, mgR_R, mgI_L, mgI_R, mgL_I, mgL_R, mgR_I, mgR_L, Nat.reduceEqDiff, false_and, and_false, true_and, and_true, ↓reduceIte], by subst hM2; simp only [mgI_I, mgL_L, mgR_R, mgI_L, mgI_R, mgL_I, mgL_R, mgR_I, mgR_L, Nat.reduceEqDiff, false_and, and_false, true_and, and_true, ↓reduceIte], by subst hM2; simp only [mgI_I, mgL_L, mgR_R, mgI_L, mgI_R, mgL_I, mgL_R, mgR_I, mgR_L, Nat.reduceEqDiff, false_and, and_false, true_and, and_true, ↓reduceIte], by subst hM2; simp only [mgI_I, mgL_L, mgR_R, mgI_L, mgI_R, mgL_I, mgL_R, mgR_I, mgR_L, Nat.reduceEqDiff, false_and, and_false, true_and, and_true, ↓reduceIte]⟩, by rw [e3]; rfl⟩
      · subst hM2
        exact EqOff.trans (hI.2.1.wide rfl) ((((((EqOff.refl.I rfl).I rfl).I rfl).I rfl).I rfl).I rfl)
      · have h3 := hI.2.2 f hf k
        have hk2 : k < 39 := hk
        rw [if_pos (by omega)] at h3
        have hk3 : ¬ k = 39 := by omega
        subst hM2
        rcases hf with rfl | rfl | rfl | rfl <;> · simp only [mgI_I, mgL_L, mgR_R, mgI_L, mgI_R, mgL_I, mgL_R, mgR_I, mgR_L, Nat.reduceEqDiff, false_and, and_false, true_and, and_true, ↓reduceIte, if_neg hk3]; exact h3)
    (fun n i M1 hi hI k => by
      simp only [fX12_changes_l61, fX12_changes_b61, nm_q, mgI_I, mgL_L, mgR_R, mgI_L, mgI_R, mgL_I, mgL_R, mgR_I, mgR_L, Nat.reduceEqDiff, false_and, and_false, true_and, and_true, ↓reduceIte]
      rw [if_neg (show ¬ (40 : Int32) ≤ nI i from nI_ge (b := 40) (by omega) (by omega)), show nI i - (1 : Int32) = nI (i - 1) from pk_sub (b := 1) hI.1]
      simp only [ix_n (show i < 40 by omega) (show 40 < 2 ^ 31 by omega), ix_n (show i - 1 < 40 by omega) (show 40 < 2 ^ 31 by omega), nI_clamp (show i < 2 ^ 31 by omega), nI_clamp (show i - 1 < 2 ^ 31 by omega), nI_1]
      refine k _ ⟨by omega, ((((hI.2.1.I rfl).I rfl).I rfl).I rfl), fun f hf j => ?_⟩
      have hj := hI.2.2 f hf j
      have hi2 := hI.2.2 f hf i
      rw [if_neg (by omega)] at hi2
      have hw : ∀ v : Int32, v = mgI M1 f 0 i → (if j = i - 1 then v else mgI M1 f 0 j) = if j + 1 < i + 1 then mgI M f 0 (j + 1) else mgI M f 0 j := fun v hv => by
        by_cases e : j = i - 1
        · rw [if_pos e, if_pos (by omega), hv, hi2]
          congr 1
          omega
        · rw [if_neg e, hj]
          by_cases e2 : j + 1 < i
          · rw [if_pos e2, if_pos (by omega)]
          · rw [if_neg e2, if_neg (by omega)]
      rcases hf with rfl | rfl | rfl | rfl <;> · simp only [mgI_I, mgL_L, mgR_R, mgI_L, mgI_R, mgL_I, mgL_R, mgR_I, mgR_L, Nat.reduceEqDiff, false_and, and_false, true_and, and_true, ↓reduceIte]; exact hw _ rfl)
    FU 1 M (by omega) ⟨Nat.le_refl _, EqOff.refl, fun f hf k => by rw [if_neg (by omega)]⟩ (by have := FU_lt (N := 1000) (by omega); omega)
  obtain ⟨r, e, M2, h1, h2⟩ := H
  exact ⟨M2, h1, by rw [← h2]; exact e⟩
theorem mc_l_50 (M : Mem) (w a v b : Int32) (e : mgI M 1224 0 0 = nI 40) (hu : mgI M 1225 0 0 = nI 0) (hset : ∀ M2, ∃ M3, fX12_set w a b M2 = some ((), M3)) : ∃ M2, PushM M M2 40 w a v b ∧ fX12_changes_l61_50 w a v b FU (1 : Int32) M = bE (fX12_set w a b M2) fun _ M3 => some (v, M3) := by
  have H := lpR (fun n i (M1 : Mem) => fX12_changes_l61_50 w a v b n (nI i) M1) (fun r => ∃ M2, PushM M M2 40 w a v b ∧ some r = bE (fX12_set w a b M2) fun _ M3 => some (v, M3)) 40
    (fun i M1 => 1 ≤ i ∧ EqOff [7000, 7100, 7200, 7300] M M1 ∧ ∀ f, (f = 7000 ∨ f = 7100 ∨ f = 7200 ∨ f = 7300) → ∀ k, mgI M1 f 0 k = if k + 1 < i then mgI M f 0 (k + 1) else mgI M f 0 k)
    (fun n M1 hI => by
      have e1 : mgI M1 1224 0 0 = nI 40 := by rw [(hI.2.1.on (K := [1224]) rfl 1224 (by decide)).1]; exact e
      have e2 : mgI M1 1225 0 0 = nI 0 := by rw [(hI.2.1.on (K := [1225]) rfl 1225 (by decide)).1]; exact hu
      simp only [fX12_changes_l61_50, fX12_changes_b61_50, nm_q, mgI_I, mgL_L, mgR_R, mgI_L, mgI_R, mgL_I, mgL_R, mgR_I, mgR_L, Nat.reduceEqDiff, false_and, and_false, true_and, and_true, ↓reduceIte, e1]
      rw [if_pos (show (40 : Int32) ≤ nI 40 from nI_le (a := 40) (by omega) (by omega)), show nI 40 - (1 : Int32) = nI 39 from pk_sub (a := 40) (b := 1) (by omega)]
      simp only [ix_n (show 39 < 40 by omega) (show 40 < 2 ^ 31 by omega), nI_clamp (show 39 < 2 ^ 31 by omega), nI_1]
      generalize hM2 : msI (msI (msI (msI (msI (msI M1 1224 0 0 (nI 39)) 7000 0 39 w) 7100 0 39 a) 7200 0 39 v) 7300 0 39 b) 1224 0 0 (nI (39 + 1)) = M2
      obtain ⟨M3, e3⟩ := hset M2
      refine ⟨(v, M3), by rw [e3]; rfl, M2, ⟨?_, by subst hM2; simp only [mgI_I, mgL_L, mgR_R, mgI_L, mgI_R, mgL_I, mgL_R, mgR_I, mgR_L, Nat.reduceEqDiff, false_and, and_false, true_and, and_true, ↓reduceIte], by subst hM2; simp only [mgI_I, mgL_L, mgR_R, mgI_L, mgI_R, mgL_I, mgL_R, mgR_I, mgR_L, Nat.reduceEqDiff, false_and, and_false, true_and, and_true, ↓reduceIte]; exact e2, fun f hf k hk => ?_, by subst hM2; simp only [mgI_I, mgL_L, mgR_R, mgI_L, mgI_R, mgL_I, mgL_R, mgR_I, mgR_L, Nat.reduceEqDiff, false_and, and_false, true_and, and_true, ↓reduceIte], by subst hM2; simp only [mgI_I, mgL_L, mgR_R, mgI_L, mgI_R, mgL_I, mgL_R, mgR_I, mgR_L, Nat.reduceEqDiff, false_and, and_false, true_and, and_true, ↓reduceIte], by subst hM2; simp only [mgI_I, mgL_L, mgR_R, mgI_L, mgI_R, mgL_I, mgL_R, mgR_I, mgR_L, Nat.reduceEqDiff, false_and, and_false, true_and, and_true, ↓reduceIte], by subst hM2; simp only [mgI_I, mgL_L, mgR_R, mgI_L, mgI_R, mgL_I, mgL_R, mgR_I, mgR_L, Nat.reduceEqDiff, false_and, and_false, true_and, and_true, ↓reduceIte]⟩, by rw [e3]; rfl⟩
      · subst hM2
        exact EqOff.trans (hI.2.1.wide rfl) ((((((EqOff.refl.I rfl).I rfl).I rfl).I rfl).I rfl).I rfl)
      · have h3 := hI.2.2 f hf k
        have hk2 : k < 39 := hk
        rw [if_pos (by omega)] at h3
        have hk3 : ¬ k = 39 := by omega
        subst hM2
        rcases hf with rfl | rfl | rfl | rfl <;> · simp only [mgI_I, mgL_L, mgR_R, mgI_L, mgI_R, mgL_I, mgL_R, mgR_I, mgR_L, Nat.reduceEqDiff, false_and, and_false, true_and, and_true, ↓reduceIte, if_neg hk3]; exact h3)
    (fun n i M1 hi hI k => by
      simp only [fX12_changes_l61_50, fX12_changes_b61_50, nm_q, mgI_I, mgL_L, mgR_R, mgI_L, mgI_R, mgL_I, mgL_R, mgR_I, mgR_L, Nat.reduceEqDiff, false_and, and_false, true_and, and_true, ↓reduceIte]
      rw [if_neg (show ¬ (40 : Int32) ≤ nI i from nI_ge (b := 40) (by omega) (by omega)), show nI i - (1 : Int32) = nI (i - 1) from pk_sub (b := 1) hI.1]
      simp only [ix_n (show i < 40 by omega) (show 40 < 2 ^ 31 by omega), ix_n (show i - 1 < 40 by omega) (show 40 < 2 ^ 31 by omega), nI_clamp (show i < 2 ^ 31 by omega), nI_clamp (show i - 1 < 2 ^ 31 by omega), nI_1]
      refine k _ ⟨by omega, ((((hI.2.1.I rfl).I rfl).I rfl).I rfl), fun f hf j => ?_⟩
      have hj := hI.2.2 f hf j
      have hi2 := hI.2.2 f hf i
      rw [if_neg (by omega)] at hi2
      have hw : ∀ v : Int32, v = mgI M1 f 0 i → (if j = i - 1 then v else mgI M1 f 0 j) = if j + 1 < i + 1 then mgI M f 0 (j + 1) else mgI M f 0 j := fun v hv => by
        by_cases e : j = i - 1
        · rw [if_pos e, if_pos (by omega), hv, hi2]
          congr 1
          omega
        · rw [if_neg e, hj]
          by_cases e2 : j + 1 < i
          · rw [if_pos e2, if_pos (by omega)]
          · rw [if_neg e2, if_neg (by omega)]
      rcases hf with rfl | rfl | rfl | rfl <;> · simp only [mgI_I, mgL_L, mgR_R, mgI_L, mgI_R, mgL_I, mgL_R, mgR_I, mgR_L, Nat.reduceEqDiff, false_and, and_false, true_and, and_true, ↓reduceIte]; exact hw _ rfl)
    FU 1 M (by omega) ⟨Nat.le_refl _, EqOff.refl, fun f hf k => by rw [if_neg (by omega)]⟩ (by have := FU_lt (N := 1000) (by omega); omega)
  obtain ⟨r, e, M2, h1, h2⟩ := H
  exact ⟨M2, h1, by rw [← h2]; exact e⟩
theorem mc_l_85 (M : Mem) (w a v b : Int32) (e : mgI M 1224 0 0 = nI 40) (hu : mgI M 1225 0 0 = nI 0) (hset : ∀ M2, ∃ M3, fX12_set w a b M2 = some ((), M3)) : ∃ M2, PushM M M2 40 w a v b ∧ fX12_changes_l61_85 w a v b FU (1 : Int32) M = bE (fX12_set w a b M2) fun _ M3 => some (v, M3) := by
  have H := lpR (fun n i (M1 : Mem) => fX12_changes_l61_85 w a v b n (nI i) M1) (fun r => ∃ M2, PushM M M2 40 w a v b ∧ some r = bE (fX12_set w a b M2) fun _ M3 => some (v, M3)) 40
    (fun i M1 => 1 ≤ i ∧ EqOff [7000, 7100, 7200, 7300] M M1 ∧ ∀ f, (f = 7000 ∨ f = 7100 ∨ f = 7200 ∨ f = 7300) → ∀ k, mgI M1 f 0 k = if k + 1 < i then mgI M f 0 (k + 1) else mgI M f 0 k)
    (fun n M1 hI => by
      have e1 : mgI M1 1224 0 0 = nI 40 := by rw [(hI.2.1.on (K := [1224]) rfl 1224 (by decide)).1]; exact e
      have e2 : mgI M1 1225 0 0 = nI 0 := by rw [(hI.2.1.on (K := [1225]) rfl 1225 (by decide)).1]; exact hu
      simp only [fX12_changes_l61_85, fX12_changes_b61_85, nm_q, mgI_I, mgL_L, mgR_R, mgI_L, mgI_R, mgL_I, mgL_R, mgR_I, mgR_L, Nat.reduceEqDiff, false_and, and_false, true_and, and_true, ↓reduceIte, e1]
      rw [if_pos (show (40 : Int32) ≤ nI 40 from nI_le (a := 40) (by omega) (by omega)), show nI 40 - (1 : Int32) = nI 39 from pk_sub (a := 40) (b := 1) (by omega)]
      simp only [ix_n (show 39 < 40 by omega) (show 40 < 2 ^ 31 by omega), nI_clamp (show 39 < 2 ^ 31 by omega), nI_1]
      generalize hM2 : msI (msI (msI (msI (msI (msI M1 1224 0 0 (nI 39)) 7000 0 39 w) 7100 0 39 a) 7200 0 39 v) 7300 0 39 b) 1224 0 0 (nI (39 + 1)) = M2
      obtain ⟨M3, e3⟩ := hset M2
      refine ⟨(v, M3), by rw [e3]; rfl, M2, ⟨?_, by subst hM2; simp only [mgI_I, mgL_L, mgR_R, mgI_L, mgI_R, mgL_I, mgL_R, mgR_I, mgR_L, Nat.reduceEqDiff, false_and, and_false, true_and, and_true, ↓reduceIte], by subst hM2; simp only [mgI_I, mgL_L, mgR_R, mgI_L, mgI_R, mgL_I, mgL_R, mgR_I, mgR_L, Nat.reduceEqDiff, false_and, and_false, true_and, and_true, ↓reduceIte]; exact e2, fun f hf k hk => ?_, by subst hM2; simp only [mgI_I, mgL_L, mgR_R, mgI_L, mgI_R, mgL_I, mgL_R, mgR_I, mgR_L, Nat.reduceEqDiff, false_and, and_false, true_and, and_true, ↓reduceIte], by subst hM2; simp only [mgI_I, mgL_L, mgR_R, mgI_L, mgI_R, mgL_I, mgL_R, mgR_I, mgR_L, Nat.reduceEqDiff, false_and, and_false, true_and, and_true, ↓reduceIte], by subst hM2; simp only [mgI_I, mgL_L, mgR_R, mgI_L, mgI_R, mgL_I, mgL_R, mgR_I, mgR_L, Nat.reduceEqDiff, false_and, and_false, true_and, and_true, ↓reduceIte], by subst hM2; simp only [mgI_I, mgL_L, mgR_R, mgI_L, mgI_R, mgL_I, mgL_R, mgR_I, mgR_L, Nat.reduceEqDiff, false_and, and_false, true_and, and_true, ↓reduceIte]⟩, by rw [e3]; rfl⟩
      · subst hM2
        exact EqOff.trans (hI.2.1.wide rfl) ((((((EqOff.refl.I rfl).I rfl).I rfl).I rfl).I rfl).I rfl)
      · have h3 := hI.2.2 f hf k
        have hk2 : k < 39 := hk
        rw [if_pos (by omega)] at h3
        have hk3 : ¬ k = 39 := by omega
        subst hM2
        rcases hf with rfl | rfl | rfl | rfl <;> · simp only [mgI_I, mgL_L, mgR_R, mgI_L, mgI_R, mgL_I, mgL_R, mgR_I, mgR_L, Nat.reduceEqDiff, false_and, and_false, true_and, and_true, ↓reduceIte, if_neg hk3]; exact h3)
    (fun n i M1 hi hI k => by
      simp only [fX12_changes_l61_85, fX12_changes_b61_85, nm_q, mgI_I, mgL_L, mgR_R, mgI_L, mgI_R, mgL_I, mgL_R, mgR_I, mgR_L, Nat.reduceEqDiff, false_and, and_false, true_and, and_true, ↓reduceIte]
      rw [if_neg (show ¬ (40 : Int32) ≤ nI i from nI_ge (b := 40) (by omega) (by omega)), show nI i - (1 : Int32) = nI (i - 1) from pk_sub (b := 1) hI.1]
      simp only [ix_n (show i < 40 by omega) (show 40 < 2 ^ 31 by omega), ix_n (show i - 1 < 40 by omega) (show 40 < 2 ^ 31 by omega), nI_clamp (show i < 2 ^ 31 by omega), nI_clamp (show i - 1 < 2 ^ 31 by omega), nI_1]
      refine k _ ⟨by omega, ((((hI.2.1.I rfl).I rfl).I rfl).I rfl), fun f hf j => ?_⟩
      have hj := hI.2.2 f hf j
      have hi2 := hI.2.2 f hf i
      rw [if_neg (by omega)] at hi2
      have hw : ∀ v : Int32, v = mgI M1 f 0 i → (if j = i - 1 then v else mgI M1 f 0 j) = if j + 1 < i + 1 then mgI M f 0 (j + 1) else mgI M f 0 j := fun v hv => by
        by_cases e : j = i - 1
        · rw [if_pos e, if_pos (by omega), hv, hi2]
          congr 1
          omega
        · rw [if_neg e, hj]
          by_cases e2 : j + 1 < i
          · rw [if_pos e2, if_pos (by omega)]
          · rw [if_neg e2, if_neg (by omega)]
      rcases hf with rfl | rfl | rfl | rfl <;> · simp only [mgI_I, mgL_L, mgR_R, mgI_L, mgI_R, mgL_I, mgL_R, mgR_I, mgR_L, Nat.reduceEqDiff, false_and, and_false, true_and, and_true, ↓reduceIte]; exact hw _ rfl)
    FU 1 M (by omega) ⟨Nat.le_refl _, EqOff.refl, fun f hf k => by rw [if_neg (by omega)]⟩ (by have := FU_lt (N := 1000) (by omega); omega)
  obtain ⟨r, e, M2, h1, h2⟩ := H
  exact ⟨M2, h1, by rw [← h2]; exact e⟩
theorem mpush (M : Mem) {d : Nat} (hd : d < 40) (w a v b : Int32) : PushM M (msI (msI (msI (msI (msI (msI M 1225 0 0 (0 : Int32)) 7000 0 d w) 7100 0 d a) 7200 0 d v) 7300 0 d b) 1224 0 0 (nI (d + 1))) d w a v b := by
  have hd0 : d / 40 = 0 := by omega
  unfold PushM
  rw [hd0, Nat.sub_zero]
  refine ⟨(((((EqOff.refl.I rfl).I rfl).I rfl).I rfl).I rfl).I rfl, by simp only [mgI_I, mgL_L, mgR_R, mgI_L, mgI_R, mgL_I, mgL_R, mgR_I, mgR_L, Nat.reduceEqDiff, false_and, and_false, true_and, and_true, ↓reduceIte], by simp only [mgI_I, mgL_L, mgR_R, mgI_L, mgI_R, mgL_I, mgL_R, mgR_I, mgR_L, Nat.reduceEqDiff, false_and, and_false, true_and, and_true, ↓reduceIte]; rfl, fun f hf k hk => ?_, by simp only [mgI_I, mgL_L, mgR_R, mgI_L, mgI_R, mgL_I, mgL_R, mgR_I, mgR_L, Nat.reduceEqDiff, false_and, and_false, true_and, and_true, ↓reduceIte], by simp only [mgI_I, mgL_L, mgR_R, mgI_L, mgI_R, mgL_I, mgL_R, mgR_I, mgR_L, Nat.reduceEqDiff, false_and, and_false, true_and, and_true, ↓reduceIte], by simp only [mgI_I, mgL_L, mgR_R, mgI_L, mgI_R, mgL_I, mgL_R, mgR_I, mgR_L, Nat.reduceEqDiff, false_and, and_false, true_and, and_true, ↓reduceIte], by simp only [mgI_I, mgL_L, mgR_R, mgI_L, mgI_R, mgL_I, mgL_R, mgR_I, mgR_L, Nat.reduceEqDiff, false_and, and_false, true_and, and_true, ↓reduceIte]⟩
  have hk2 : ¬ k = d := by omega
  rcases hf with rfl | rfl | rfl | rfl <;> · simp only [mgI_I, mgL_L, mgR_R, mgI_L, mgI_R, mgL_I, mgL_R, mgR_I, mgR_L, Nat.reduceEqDiff, false_and, and_false, true_and, and_true, ↓reduceIte, if_neg hk2]; rfl
theorem PushM.pre {M M1 M2 : Mem} {d : Nat} {w a v b : Int32} (h : EqOff [1225] M M1) (k : PushM M1 M2 d w a v b) : PushM M M2 d w a v b := by
  obtain ⟨k1, k2, k3, k4, k5⟩ := k
  refine ⟨EqOff.trans (h.wide rfl) k1, k2, k3, fun f hf j hj => ?_, k5⟩
  rw [k4 f hf j hj]
  have := h.on (K := [7000, 7100, 7200, 7300]) rfl
  rcases hf with rfl | rfl | rfl | rfl
  · rw [(this 7000 (by decide)).1]
  · rw [(this 7100 (by decide)).1]
  · rw [(this 7200 (by decide)).1]
  · rw [(this 7300 (by decide)).1]
/-- a change comes: both sides -/
theorem push_sim {C M C2 M2 : Mem} {nS nL : Nat} (h : Sim C M nS nL) {d u : Nat} (e1 : mgI M 1224 0 0 = nI d) (e2 : mgI M 1225 0 0 = nI u) (hdu : d + u ≤ 40) {w a v b : Int32} (pC : PushC C C2 d w a v b) (pM : PushM M M2 d w a v b) (ok1 : okCh nL (mgI M 1246 0 0).toNatClampNeg w a v) (ok2 : okCh nL (mgI M 1246 0 0).toNatClampNeg w a b) : Sim C2 M2 nS nL := by
  have hC := pC.1
  have hM := pM.1
  have hCt := hC.txC rfl
  have hMt := hM.txM rfl
  have g : f_g1 C2 M2 nS nL := by
    obtain ⟨d', u', q1, q2, q3, q4, q5, q6, q7⟩ := sm_g1 h
    have ea : d' = d := (nI_eq (by omega) (by omega)).mp (q2.symm.trans e1)
    have eb : u' = u := (nI_eq (by omega) (by omega)).mp (q3.symm.trans e2)
    subst ea eb
    obtain ⟨-, c1, c2, c3, c4, c5, c6, c7⟩ := pC
    obtain ⟨-, m1, m2, m3, m4, m5, m6, m7⟩ := pM
    unfold f_g1
    rw [(hM.on (K := [1246]) rfl 1246 (by decide)).1]
    refine ⟨d' - d' / 40 + 1, 0, by omega, m1, m2, c1, c2, fun k hk => ?_, fun k hk => ?_⟩
    · by_cases e : k = d' - d' / 40
      · subst e
        exact ⟨c4.trans m4.symm, c5.trans m5.symm, c6.trans m6.symm, c7.trans m7.symm⟩
      · have := q6 (k + d' / 40) (by omega)
        refine ⟨?_, ?_, ?_, ?_⟩
        · rw [c3 2100 (by decide) k (by omega), m3 7000 (by decide) k (by omega)]; exact this.1
        · rw [c3 2200 (by decide) k (by omega), m3 7100 (by decide) k (by omega)]; exact this.2.1
        · rw [c3 2300 (by decide) k (by omega), m3 7200 (by decide) k (by omega)]; exact this.2.2.1
        · rw [c3 2400 (by decide) k (by omega), m3 7300 (by decide) k (by omega)]; exact this.2.2.2
    · by_cases e : k = d' - d' / 40
      · subst e
        rw [m4, m5, m6, m7]
        exact ⟨ok1, ok2⟩
      · rw [m3 7000 (by decide) k (by omega), m3 7100 (by decide) k (by omega), m3 7200 (by decide) k (by omega), m3 7300 (by decide) k (by omega)]
        exact q7 (k + d' / 40) (by omega)
  exact ⟨fr_b1 (sm_b1 h),
    fr_c1 (hC.on rfl)  (sm_c1 h),
    fr_c2  (hM.on rfl) (sm_c2 h),
    fr_r1 (hC.on rfl)  (sm_r1 h),
    fr_r2 (hC.on rfl)  (sm_r2 h),
    fr_s0 (hC.on rfl)  (sm_s0 h),
    fr_sK (hC.on rfl) (hM.on rfl) (sm_sK h),
    fr_sM (hC.on rfl) (hM.on rfl) (sm_sM h),
    fr_sA (hC.on rfl) (hM.on rfl) (sm_sA h),
    fr_sB (hC.on rfl) (hM.on rfl) (sm_sB h),
    fr_sI (hC.on rfl) (hM.on rfl) (sm_sI h),
    fr_sW (hC.on rfl) (hM.on rfl) (sm_sW h),
    fr_sP (hC.on rfl) (hM.on rfl) (sm_sP h),
    fr_sH (hC.on rfl) (hM.on rfl) (sm_sH h),
    fr_sT (hC.on rfl) (hM.on rfl) (sm_sT h),
    fr_vK  (hM.on rfl) (sm_vK h),
    fr_vB  (hM.on rfl) (sm_vB h),
    fr_n1  (hM.on rfl) (sm_n1 h),
    fr_n2 (hC.on rfl) (hM.on rfl) (sm_n2 h),
    fr_vM  (hM.on rfl) (sm_vM h),
    fr_vT  (hM.on rfl) (sm_vT h),
    fr_tB (hC.on rfl) (hM.on rfl) (sm_tB h),
    fr_vJ  (hM.on rfl) (sm_vJ h),
    fr_vH  (hM.on rfl) (sm_vH h),
    fr_l0 (hC.on rfl) (hM.on rfl) (sm_l0 h),
    fr_l1 (hC.on rfl) (hM.on rfl) (sm_l1 h),
    fr_l3 (hC.on rfl) (hM.on rfl) (sm_l3 h),
    fr_l4 (hC.on rfl) (hM.on rfl) (sm_l4 h),
    fr_l5 (hC.on rfl) (hM.on rfl) (sm_l5 h),
    fr_vL  (hM.on rfl) (sm_vL h),
    fr_vW  (hM.on rfl) (sm_vW h),
    fr_vE  (hM.on rfl) (sm_vE h),
    fr_vD  (hM.on rfl) (sm_vD h),
    fr_h1 (hC.on rfl) (hM.on rfl) (sm_h1 h),
    fr_h2 (hC.on rfl) (hM.on rfl) (sm_h2 h),
    fr_h3 (hC.on rfl) (hM.on rfl) (sm_h3 h),
    fr_h4 (hC.on rfl) (hM.on rfl) (sm_h4 h),
    fr_h5 (hC.on rfl) (hM.on rfl) (sm_h5 h),
    fr_z1  (hM.on rfl) (sm_z1 h),
    fr_z2  (hM.on rfl) (sm_z2 h),
    fr_z3  (hM.on rfl) (sm_z3 h),
    fr_e1 (hC.on rfl) (hM.on rfl) (sm_e1 h),
    fr_e2  (hM.on rfl) (sm_e2 h),
    fr_e3 (hC.on rfl) (hM.on rfl) (sm_e3 h),
    fr_o1  (hM.on rfl) (sm_o1 h),
    fr_o2 (hC.on rfl) (hM.on rfl) (sm_o2 h),
    fr_o3 (hC.on rfl) (hM.on rfl) (sm_o3 h),
    fr_o4 (hC.on rfl) (hM.on rfl) (sm_o4 h),
    fr_o5 (hC.on rfl) (hM.on rfl) (sm_o5 h),
    fr_o6  (hM.on rfl) (sm_o6 h),
    g,
    fr_d1 (hC.on rfl) (hM.on rfl) (sm_d1 h),
    fr_t1 (hC.on rfl) (hM.on rfl) (sm_t1 h),
    fr_x1 hCt hMt (sm_x1 h),
    fr_a1 (hC.on rfl) (hM.on rfl) (sm_a1 h),
    fr_a2 (hC.on rfl) (hM.on rfl) (sm_a2 h),
    fr_p1 (hC.on rfl) (hM.on rfl) (sm_p1 h),
    fr_p2 (hC.on rfl) (hM.on rfl) (sm_p2 h)⟩
theorem set_tot {w a : Int32} {nL nc : Nat} (hL : nL ≤ 200) (hc : nc ≤ 60) {b : Int32} (ok : okCh nL nc w a b) (M : Mem) : ∃ M', fX12_set w a b M = some ((), M') := by
  unfold fX12_set
  rcases ok with ⟨rfl, ⟨l, hl, rfl⟩, -⟩ | ⟨rfl, ⟨l, hl, rfl⟩, -⟩ | ⟨rfl, l, hl, rfl⟩
  · rw [if_pos (show nI 0 = 0 from rfl), ix_n (by omega) (by omega)]; exact ⟨_, rfl⟩
  · rw [if_neg (show ¬ nI 1 = 0 by decide), if_pos (show nI 1 = 1 from rfl), ix_n (by omega) (by omega)]; exact ⟨_, rfl⟩
  · rw [if_neg (show ¬ nI 2 = 0 by decide), if_neg (show ¬ nI 2 = 1 by decide), ix_n (by omega) (by omega)]; exact ⟨_, rfl⟩
/-- what the reference has now where a change goes -/
def mWas (M : Mem) (w a : Int32) : Int32 := if w = 0 then mgI M 6100 0 a.toNatClampNeg else if w = 1 then mgI M 6200 0 a.toNatClampNeg else mgI M 8600 0 a.toNatClampNeg
theorem ch_q {C M : Mem} {nS nL : Nat} (h : Sim C M nS nL) {w a b : Int32} (ok : okCh nL (mgI M 1246 0 0).toNatClampNeg w a b) (hv : okCh nL (mgI M 1246 0 0).toNatClampNeg w a (mWas M w a)) : ∃ C' M', fX1_make w a (mWas M w a) b C = some ((), C') ∧ fX12_changes w a b M = some (mWas M w a, M') ∧ Sim C' M' nS nL := by
  have hb : nS ≤ 64 ∧ nL ≤ 200 := sm_b1 h
  obtain ⟨nc, hnc, m0, c0, hcl⟩ := ncL h
  obtain ⟨d, u, q1, q2, q3, q4, -⟩ := sm_g1 h
  by_cases heq : b = mWas M w a
  · refine ⟨C, M, ?_, ?_, h⟩
    · unfold fX1_make
      rw [if_pos heq]
    · unfold fX12_changes
      unfold mWas at heq ⊢
      rcases ok with ⟨rfl, ⟨l, hl, rfl⟩, -⟩ | ⟨rfl, ⟨l, hl, rfl⟩, -⟩ | ⟨rfl, l, hl, rfl⟩
      · rw [if_pos (show nI 0 = 0 from rfl)] at heq ⊢
        rw [if_pos (show nI 0 = 0 from rfl), ix_n (by omega) (by omega), nm_q, if_pos heq.symm]
      · rw [if_neg (show ¬ nI 1 = 0 by decide), if_pos (show nI 1 = 1 from rfl)] at heq ⊢
        rw [if_neg (show ¬ nI 1 = 0 by decide), if_pos (show nI 1 = 1 from rfl), ix_n (by omega) (by omega), nm_q, if_pos heq.symm]
      · rw [if_neg (show ¬ nI 2 = 0 by decide), if_neg (show ¬ nI 2 = 1 by decide)] at heq ⊢
        rw [if_neg (show ¬ nI 2 = 0 by decide), if_neg (show ¬ nI 2 = 1 by decide), ix_n (by omega) (by omega), nm_q, if_pos heq.symm]
  · obtain ⟨C2, pC, eC⟩ := mk_q C (show d ≤ 40 by omega) q4 w a (mWas M w a) b heq
    have htot : ∀ M2, ∃ M3, fX12_set w a b M2 = some ((), M3) := fun M2 => set_tot hb.2 (by rw [hcl]; exact hnc) ok M2
    have e75 : EqOff [1225] M (msI M 1225 0 0 (0 : Int32)) := EqOff.refl.I rfl
    have hne : ¬ mWas M w a = b := fun z => heq z.symm
    have hM : ∃ M2, PushM M M2 d w a (mWas M w a) b ∧ fX12_changes w a b M = bE (fX12_set w a b M2) fun _ M3 => some (mWas M w a, M3) := by
      by_cases h4 : d = 40
      · subst h4
        have ex : mgI (msI M 1225 0 0 (0 : Int32)) 1224 0 0 = nI 40 := by simp only [mgI_I, mgL_L, mgR_R, mgI_L, mgI_R, mgL_I, mgL_R, mgR_I, mgR_L, Nat.reduceEqDiff, false_and, and_false, true_and, and_true, ↓reduceIte]; exact q2
        have ey : mgI (msI M 1225 0 0 (0 : Int32)) 1225 0 0 = nI 0 := by simp only [mgI_I, mgL_L, mgR_R, mgI_L, mgI_R, mgL_I, mgL_R, mgR_I, mgR_L, Nat.reduceEqDiff, false_and, and_false, true_and, and_true, ↓reduceIte]; rfl
        unfold fX12_changes
        have hw := ok
        unfold mWas at hne ⊢
        rcases ok with ⟨rfl, ⟨l, hl, rfl⟩, -⟩ | ⟨rfl, ⟨l, hl, rfl⟩, -⟩ | ⟨rfl, l, hl, rfl⟩
        · rw [if_pos (show nI 0 = 0 from rfl)] at hne ⊢
          rw [if_pos (show nI 0 = 0 from rfl), ix_n (by omega) (by omega)]
          simp only [nm_q]
          rw [if_neg hne, ex, if_pos (show nI 40 = 40 from rfl)]
          obtain ⟨M2, p1, p2⟩ := mc_l_85 (msI M 1225 0 0 (0 : Int32)) (nI 0) (nI l) (mgI M 6100 0 (nI l).toNatClampNeg) b ex ey htot
          exact ⟨M2, p1.pre e75, p2⟩
        · rw [if_neg (show ¬ nI 1 = 0 by decide), if_pos (show nI 1 = 1 from rfl)] at hne ⊢
          rw [if_neg (show ¬ nI 1 = 0 by decide), if_pos (show nI 1 = 1 from rfl), ix_n (by omega) (by omega)]
          simp only [nm_q]
          rw [if_neg hne, ex, if_pos (show nI 40 = 40 from rfl)]
          obtain ⟨M2, p1, p2⟩ := mc_l_50 (msI M 1225 0 0 (0 : Int32)) (nI 1) (nI l) (mgI M 6200 0 (nI l).toNatClampNeg) b ex ey htot
          exact ⟨M2, p1.pre e75, p2⟩
        · rw [if_neg (show ¬ nI 2 = 0 by decide), if_neg (show ¬ nI 2 = 1 by decide)] at hne ⊢
          rw [if_neg (show ¬ nI 2 = 0 by decide), if_neg (show ¬ nI 2 = 1 by decide), ix_n (by omega) (by omega)]
          simp only [nm_q]
          rw [if_neg hne, ex, if_pos (show nI 40 = 40 from rfl)]
          obtain ⟨M2, p1, p2⟩ := mc_l (msI M 1225 0 0 (0 : Int32)) (nI 2) (nI l) (mgI M 8600 0 (nI l).toNatClampNeg) b ex ey htot
          exact ⟨M2, p1.pre e75, p2⟩
      · have hd : d < 40 := by omega
        have n40 : ¬ nI d = 40 := fun z => h4 ((nI_eq (b := 40) (by omega) (by decide)).mp z)
        refine ⟨_, mpush M hd w a (mWas M w a) b, ?_⟩
        unfold fX12_changes
        unfold mWas at hne ⊢
        rcases ok with ⟨rfl, ⟨l, hl, rfl⟩, -⟩ | ⟨rfl, ⟨l, hl, rfl⟩, -⟩ | ⟨rfl, l, hl, rfl⟩
        · rw [if_pos (show nI 0 = 0 from rfl)] at hne ⊢
          rw [if_pos (show nI 0 = 0 from rfl), ix_n (by omega) (by omega)]
          simp only [nm_q]
          rw [if_neg hne]
          simp only [mgI_I, mgL_L, mgR_R, mgI_L, mgI_R, mgL_I, mgL_R, mgR_I, mgR_L, Nat.reduceEqDiff, false_and, and_false, true_and, and_true, ↓reduceIte, q2, if_neg n40, ix_n hd (show 40 < 2 ^ 31 by omega), nI_clamp (show d < 2 ^ 31 by omega), nI_1]
        · rw [if_neg (show ¬ nI 1 = 0 by decide), if_pos (show nI 1 = 1 from rfl)] at hne ⊢
          rw [if_neg (show ¬ nI 1 = 0 by decide), if_pos (show nI 1 = 1 from rfl), ix_n (by omega) (by omega)]
          simp only [nm_q]
          rw [if_neg hne]
          simp only [mgI_I, mgL_L, mgR_R, mgI_L, mgI_R, mgL_I, mgL_R, mgR_I, mgR_L, Nat.reduceEqDiff, false_and, and_false, true_and, and_true, ↓reduceIte, q2, if_neg n40, ix_n hd (show 40 < 2 ^ 31 by omega), nI_clamp (show d < 2 ^ 31 by omega), nI_1]
        · rw [if_neg (show ¬ nI 2 = 0 by decide), if_neg (show ¬ nI 2 = 1 by decide)] at hne ⊢
          rw [if_neg (show ¬ nI 2 = 0 by decide), if_neg (show ¬ nI 2 = 1 by decide), ix_n (by omega) (by omega)]
          simp only [nm_q]
          rw [if_neg hne]
          simp only [mgI_I, mgL_L, mgR_R, mgI_L, mgI_R, mgL_I, mgL_R, mgR_I, mgR_L, Nat.reduceEqDiff, false_and, and_false, true_and, and_true, ↓reduceIte, q2, if_neg n40, ix_n hd (show 40 < 2 ^ 31 by omega), nI_clamp (show d < 2 ^ 31 by omega), nI_1]
    obtain ⟨M2, pM, eM⟩ := hM
    have hs := push_sim h q2 q3 q1 pC pM hv ok
    obtain ⟨C', M', s1, s2, s3, -, -⟩ := set_q hs (w := w) (a := a) (b := b) (by rw [(pM.1.on (K := [1246]) rfl 1246 (by decide)).1]; exact ok)
    refine ⟨C', M', ?_, ?_, s3⟩
    · rw [eC, s1]; rfl
    · rw [eM, s2]; rfl
theorem qs_change {C M : Mem} {nS nL : Nat} (h : Sim C M nS nL) (a1 a2 a3 : Int32) : QA nS nL (fX11_change a1 a2 a3 C) (fX12_change a1 a2 a3 M) := by
  have hb : nS ≤ 64 ∧ nL ≤ 200 := sm_b1 h
  unfold fX11_change fX12_change
  rcases ln_c h a1 with ⟨l, hl, -, rfl, e1, e2⟩ | ⟨e1, e2⟩
  · rw [e1, e2]
    simp only [nm_q, bd_s, oc_S]
    rw [if_neg one_ne]
    by_cases h0 : a2 = 0
    · subst h0
      simp only [↓reduceIte, if_neg (show ¬ (0 : Int32) = 1 by decide)]
      unfold fX11_isWeight
      rcases rg_c a3 1 99 (by decide) (by decide) with ⟨h1, h2⟩ | ⟨h1, h2⟩ | ⟨v, hv1, hv2, rfl⟩
      · rw [if_pos (show a3 < 1 from h1), in_lo (show a3 < 1 from h1)]
        exact QA_same h rfl rfl
      · rw [if_pos (show (99 : Int32) < a3 from h1), ite_self, in_hi (show (99 : Int32) < a3 from h1)]
        exact QA_same h rfl rfl
      · rw [if_neg (show ¬ nI v < 1 from nI_nlt (b := 1) hv1 (by omega)), if_neg (show ¬ (99 : Int32) < nI v from nI_nlt (a := 99) hv2 (by omega)), show fX12_in (nI v) 1 99 = 1 from in_ok (lo := 1) (hi := 99) hv1 hv2 (by decide), if_neg one_ne, if_neg one_ne, sm_l3 h l hl]
        have hw : mWas M 0 (nI l) = mgI M 6100 0 l := by unfold mWas; rw [if_pos rfl, nI_clamp (by omega)]
        obtain ⟨x, x1, x2, x3⟩ := sm_vW h l hl
        obtain ⟨C', M', s1, s2, s3⟩ := ch_q h (w := 0) (a := nI l) (b := nI v) (Or.inl ⟨rfl, ⟨l, hl, rfl⟩, v, hv1, hv2, rfl⟩) (by rw [hw]; exact Or.inl ⟨rfl, ⟨l, hl, rfl⟩, x, x1, x2, x3⟩)
        rw [hw] at s1 s2
        rw [s1, s2]
        exact ⟨_, _, _, rfl, rfl, s3⟩
    · by_cases h1 : a2 = 1
      · subst h1
        simp only [↓reduceIte, if_neg one_ne]
        unfold fX11_isSense
        rcases rg_c a3 0 2 (by decide) (by decide) with ⟨h1, h2⟩ | ⟨h1, h2⟩ | ⟨v, -, hv2, rfl⟩
        · rw [if_pos (show a3 < 0 from h1), in_lo (show a3 < 0 from h1)]
          exact QA_same h rfl rfl
        · rw [if_pos (show (2 : Int32) < a3 from h1), ite_self, in_hi (show (2 : Int32) < a3 from h1)]
          exact QA_same h rfl rfl
        · rw [if_neg (nI_pos (by omega)), if_neg (show ¬ (2 : Int32) < nI v from nI_nlt (a := 2) hv2 (by omega)), show fX12_in (nI v) 0 2 = 1 from in_ok (lo := 0) (hi := 2) (Nat.zero_le _) hv2 (by decide), if_neg one_ne, if_neg one_ne, sm_l4 h l hl]
          have hw : mWas M 1 (nI l) = mgI M 6200 0 l := by unfold mWas; rw [if_neg one_ne, if_pos rfl, nI_clamp (by omega)]
          obtain ⟨x, x2, x3⟩ := sm_vE h l hl
          obtain ⟨C', M', s1, s2, s3⟩ := ch_q h (w := 1) (a := nI l) (b := nI v) (Or.inr (Or.inl ⟨rfl, ⟨l, hl, rfl⟩, v, hv2, rfl⟩)) (by rw [hw]; exact Or.inr (Or.inl ⟨rfl, ⟨l, hl, rfl⟩, x, x2, x3⟩))
          rw [hw] at s1 s2
          rw [s1, s2]
          exact ⟨_, _, _, rfl, rfl, s3⟩
      · simp only [if_neg h0, if_neg h1]
        exact QA_same h rfl rfl
  · rw [e1, e2]
    exact QA_same h rfl rfl
theorem cp_c {C M : Mem} {nS nL : Nat} (h : Sim C M nS nL) (x : Int32) : (∃ c, c < (mgI M 1246 0 0).toNatClampNeg ∧ (mgI M 1246 0 0).toNatClampNeg ≤ 60 ∧ x = nI c ∧ fX2_isCopy x C = 1 ∧ fX12_in x 0 (mgI M 1246 0 0 - (1 : Int32)) = 1) ∨ (fX2_isCopy x C = 0 ∧ fX12_in x 0 (mgI M 1246 0 0 - (1 : Int32)) = 0) := by
  obtain ⟨nc, hnc, m0, c0, hcl⟩ := ncL h
  rw [hcl, m0]
  unfold fX2_isCopy
  rw [c0]
  rcases Nat.eq_zero_or_pos nc with hz | hz
  · subst hz
    refine Or.inr ⟨?_, ?_⟩
    · by_cases h1 : x < 0
      · rw [if_pos h1]
      · rw [if_neg h1, if_pos (show nI 0 ≤ x from Int32.not_lt.mp h1)]
    · by_cases h1 : x < 0
      · exact in_lo h1
      · exact in_hi (Int32.lt_of_lt_of_le (show nI 0 - (1 : Int32) < 0 by decide) (Int32.not_lt.mp h1))
  · rw [show nI nc - (1 : Int32) = nI (nc - 1) from pk_sub (b := 1) hz]
    rcases rg_c x 0 (nc - 1) (by omega) (by omega) with ⟨h1, h2⟩ | ⟨h1, h2⟩ | ⟨c, -, h1, rfl⟩
    · exact Or.inr ⟨by rw [if_pos (show x < 0 from h1)], in_lo h1⟩
    · have h3 := nI_aft (n := nc - 1) (by omega) h1
      rw [show nc - 1 + 1 = nc by omega] at h3
      exact Or.inr ⟨by rw [if_pos h3, ite_self], in_hi h1⟩
    · exact Or.inl ⟨c, by omega, hnc, rfl, by rw [if_neg (nI_pos (by omega)), if_neg (nI_ge (by omega) (by omega))], in_ok (lo := 0) (Nat.zero_le _) h1 (by omega)⟩
theorem qs_mark {C M : Mem} {nS nL : Nat} (h : Sim C M nS nL) (a1 a2 : Int32) : QA nS nL (fX11_mark a1 a2 C) (fX12_mark a1 a2 M) := by
  obtain ⟨w, hw, n0, n1, -⟩ := nwL h
  unfold fX11_mark fX12_mark
  simp only [nm_q]
  rcases cp_c h a1 with ⟨c, hc, hc6, rfl, e1, e2⟩ | ⟨e1, e2⟩
  · rw [e1, e2, if_neg one_ne, if_neg one_ne]
    have hq : mWas M 2 (nI c) = mgI M 8600 0 c := by unfold mWas; rw [if_neg (by decide), if_neg (by decide), nI_clamp (by omega)]
    rcases rg_c a2 0 1 (by decide) (by decide) with ⟨h1, h2⟩ | ⟨h1, h2⟩ | ⟨v, -, hv2, rfl⟩
    · rw [if_pos (show a2 < 0 from h1), in_lo (show a2 < 0 from h1)]
      exact QA_same h rfl rfl
    · rw [if_neg (show ¬ a2 ≤ 1 from h2), ite_self, in_hi (show (1 : Int32) < a2 from h1)]
      exact QA_same h rfl rfl
    · rw [if_neg (nI_pos (by omega)), if_pos (show nI v ≤ 1 from nI_le (b := 1) hv2 (by omega)), show fX12_in (nI v) 0 1 = 1 from in_ok (lo := 0) (hi := 1) (Nat.zero_le _) hv2 (by decide), if_neg one_ne, ix_n (by omega) (by omega), nI_clamp (by omega), sm_o5 h c hc, n1, n0]
      have hok : ∀ b, okCh nL (mgI M 1246 0 0).toNatClampNeg 2 (nI c) b := fun b => Or.inr (Or.inr ⟨rfl, c, hc, rfl⟩)
      by_cases hv : nI v = 1
      · rw [if_pos hv, if_pos hv]
        obtain ⟨C', M', s1, s2, s3⟩ := ch_q h (hok (nI w)) (hok _)
        rw [hq] at s1 s2
        rw [s1, s2]
        exact ⟨_, _, _, rfl, rfl, s3⟩
      · rw [if_neg hv, if_neg hv]
        obtain ⟨C', M', s1, s2, s3⟩ := ch_q h (hok (-1)) (hok _)
        rw [hq] at s1 s2
        rw [s1, s2]
        exact ⟨_, _, _, rfl, rfl, s3⟩
  · rw [e1, e2]
    exact QA_same h rfl rfl
