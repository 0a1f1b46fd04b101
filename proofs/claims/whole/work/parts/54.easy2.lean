theorem nar_1 : vp_nar .boolean (1 : Int32) = nI 1 := by decide +kernel
theorem nar_0 : vp_nar .boolean (0 : Int32) = nI 0 := by decide +kernel
theorem nwL {C M : Mem} {nS nL : Nat} (h : Sim C M nS nL) : ∃ w, w ≤ 599 ∧ mgI M 1201 0 0 = nI w ∧ mgI C 504 0 0 = nI w ∧ (mgI M 1201 0 0).toNatClampNeg = w := ⟨_, (sm_n1 h).2, (sm_n1 h).1, (sm_n2 h).trans (sm_n1 h).1, rfl⟩
theorem ncL {C M : Mem} {nS nL : Nat} (h : Sim C M nS nL) : ∃ w, w ≤ 60 ∧ mgI M 1246 0 0 = nI w ∧ mgI C 201 0 0 = nI w ∧ (mgI M 1246 0 0).toNatClampNeg = w := ⟨_, (sm_o1 h).2, (sm_o1 h).1, (sm_o2 h).trans (sm_o1 h).1, rfl⟩
theorem qs_letter {C M : Mem} {nS nL : Nat} (h : Sim C M nS nL) (a1 : Int32) : QA nS nL (fX11_letter a1 C) (fX12_letter a1 M) := by
  unfold fX11_letter fX12_letter
  rcases st_c h a1 with ⟨s, hs, hb, rfl, e1, e2⟩ | ⟨e1, e2⟩
  · rw [e1, e2]
    simp only [nm_q, bd_s, oc_S, nI_clamp (show s < 2 ^ 31 by omega), ix_n (show s < 64 by omega) (show 64 < 2 ^ 31 by omega), sm_sK h s hs, sm_sT h s hs, nar_1]
    rw [if_neg (show ¬ (1 : Int32) = 0 by decide)]
    by_cases hk : mgI M 5000 0 s = 5
    · rw [if_pos hk, if_pos hk]
      have hM : EqOff [5800] M (msI M 5800 0 s (nI 1)) := EqOff.refl.I rfl
      have hMt := hM.txM rfl
      have m8 : ∀ t, mgI (msI M 5800 0 s (nI 1)) 5800 0 t = if t = s then nI 1 else mgI M 5800 0 t := fun t => by simp only [mgI_I, mgL_L, mgR_R, mgI_L, mgI_R, mgL_I, mgL_R, mgR_I, mgR_L, Nat.reduceEqDiff, false_and, and_false, true_and, and_true, ↓reduceIte]
      by_cases hv : mgI M 5800 0 s = 0
      · rw [if_pos hv, if_pos hv]
        have hC : EqOff [811] C (msI C 811 s 0 (nI 1)) := EqOff.refl.I rfl
        have hCt := hC.txC rfl
        refine ⟨_, msI C 811 s 0 (nI 1), _, rfl, rfl, ?_⟩
        have c8 : ∀ t, mgI (msI C 811 s 0 (nI 1)) 811 t 0 = if t = s then nI 1 else mgI C 811 t 0 := fun t => by simp only [mgI_I, mgL_L, mgR_R, mgI_L, mgI_R, mgL_I, mgL_R, mgR_I, mgR_L, Nat.reduceEqDiff, false_and, and_false, true_and, and_true, ↓reduceIte]
        exact ⟨fr_b1 (sm_b1 h),
    fr_c1 (hC.on rfl)  (sm_c1 h),
    fr_c2  (hM.on rfl) (sm_c2 h),
    fr_r1 (hC.on rfl)  (sm_r1 h),
    fr_r2 (hC.on rfl)  (sm_r2 h),
    fr_s0 (hC.on rfl)  (sm_s0 h),
    fr_sK (hC.on rfl) (hM.on rfl) (sm_sK h),
    fr_sM (hC.on rfl) (hM.on rfl) (sm_sM h),
    fr_sA (hC.on rfl) (hM.on rfl) (sm_sA h),
    fr_sB (hC.on rfl) (hM.on rfl) (sm_sB h),
    fr_sI (hC.on rfl) (hM.on rfl) (sm_sI h),
    fr_sW (hC.on rfl) (hM.on rfl) (sm_sW h),
    fr_sP (hC.on rfl) (hM.on rfl) (sm_sP h),
    fr_sH (hC.on rfl) (hM.on rfl) (sm_sH h),
    (fun t ht => by rw [c8, m8, sm_sT h t ht]),
    fr_vK  (hM.on rfl) (sm_vK h),
    fr_vB  (hM.on rfl) (sm_vB h),
    fr_n1  (hM.on rfl) (sm_n1 h),
    fr_n2 (hC.on rfl) (hM.on rfl) (sm_n2 h),
    fr_vM  (hM.on rfl) (sm_vM h),
    fr_vT  (hM.on rfl) (sm_vT h),
    fr_tB (hC.on rfl) (hM.on rfl) (sm_tB h),
    (fun t ht => by rw [m8]; split; exact Or.inr rfl; exact sm_vJ h t ht),
    fr_vH  (hM.on rfl) (sm_vH h),
    fr_l0 (hC.on rfl) (hM.on rfl) (sm_l0 h),
    fr_l1 (hC.on rfl) (hM.on rfl) (sm_l1 h),
    fr_l3 (hC.on rfl) (hM.on rfl) (sm_l3 h),
    fr_l4 (hC.on rfl) (hM.on rfl) (sm_l4 h),
    fr_l5 (hC.on rfl) (hM.on rfl) (sm_l5 h),
    fr_vL  (hM.on rfl) (sm_vL h),
    fr_vW  (hM.on rfl) (sm_vW h),
    fr_vE  (hM.on rfl) (sm_vE h),
    fr_vD  (hM.on rfl) (sm_vD h),
    fr_h1 (hC.on rfl) (hM.on rfl) (sm_h1 h),
    fr_h2 (hC.on rfl) (hM.on rfl) (sm_h2 h),
    fr_h3 (hC.on rfl) (hM.on rfl) (sm_h3 h),
    fr_h4 (hC.on rfl) (hM.on rfl) (sm_h4 h),
    fr_h5 (hC.on rfl) (hM.on rfl) (sm_h5 h),
    (fun t ht => by rw [m8, if_neg (by omega), (hM.on (K := [5600]) rfl 5600 (by decide)).1, (hM.on (K := [5700]) rfl 5700 (by decide)).1]; exact sm_z1 h t ht),
    fr_z2  (hM.on rfl) (sm_z2 h),
    fr_z3  (hM.on rfl) (sm_z3 h),
    fr_e1 (hC.on rfl) (hM.on rfl) (sm_e1 h),
    fr_e2  (hM.on rfl) (sm_e2 h),
    fr_e3 (hC.on rfl) (hM.on rfl) (sm_e3 h),
    fr_o1  (hM.on rfl) (sm_o1 h),
    fr_o2 (hC.on rfl) (hM.on rfl) (sm_o2 h),
    fr_o3 (hC.on rfl) (hM.on rfl) (sm_o3 h),
    fr_o4 (hC.on rfl) (hM.on rfl) (sm_o4 h),
    fr_o5 (hC.on rfl) (hM.on rfl) (sm_o5 h),
    fr_o6  (hM.on rfl) (sm_o6 h),
    fr_g1 (hC.on rfl) (hM.on rfl) (sm_g1 h),
    fr_d1 (hC.on rfl) (hM.on rfl) (sm_d1 h),
    fr_t1 (hC.on rfl) (hM.on rfl) (sm_t1 h),
    fr_x1 hCt hMt (sm_x1 h),
    fr_a1 (hC.on rfl) (hM.on rfl) (sm_a1 h),
    fr_a2 (hC.on rfl) (hM.on rfl) (sm_a2 h),
    fr_p1 (hC.on rfl) (hM.on rfl) (sm_p1 h),
    fr_p2 (hC.on rfl) (hM.on rfl) (sm_p2 h)⟩
      · rw [if_neg hv, if_neg hv]
        have hC : EqOff [811] C C := EqOff.refl
        have hCt := hC.txC rfl
        refine ⟨_, _, _, rfl, rfl, ?_⟩
        have hv1 : mgI M 5800 0 s = nI 1 := (sm_vJ h s hs).resolve_left hv
        have m9 : ∀ t, mgI (msI M 5800 0 s (nI 1)) 5800 0 t = mgI M 5800 0 t := fun t => by
          rw [m8]
          split
          · rename_i e; rw [e, hv1]
          · rfl
        exact ⟨fr_b1 (sm_b1 h),
    fr_c1 (hC.on rfl)  (sm_c1 h),
    fr_c2  (hM.on rfl) (sm_c2 h),
    fr_r1 (hC.on rfl)  (sm_r1 h),
    fr_r2 (hC.on rfl)  (sm_r2 h),
    fr_s0 (hC.on rfl)  (sm_s0 h),
    fr_sK (hC.on rfl) (hM.on rfl) (sm_sK h),
    fr_sM (hC.on rfl) (hM.on rfl) (sm_sM h),
    fr_sA (hC.on rfl) (hM.on rfl) (sm_sA h),
    fr_sB (hC.on rfl) (hM.on rfl) (sm_sB h),
    fr_sI (hC.on rfl) (hM.on rfl) (sm_sI h),
    fr_sW (hC.on rfl) (hM.on rfl) (sm_sW h),
    fr_sP (hC.on rfl) (hM.on rfl) (sm_sP h),
    fr_sH (hC.on rfl) (hM.on rfl) (sm_sH h),
    (fun t ht => by rw [m9, sm_sT h t ht]),
    fr_vK  (hM.on rfl) (sm_vK h),
    fr_vB  (hM.on rfl) (sm_vB h),
    fr_n1  (hM.on rfl) (sm_n1 h),
    fr_n2 (hC.on rfl) (hM.on rfl) (sm_n2 h),
    fr_vM  (hM.on rfl) (sm_vM h),
    fr_vT  (hM.on rfl) (sm_vT h),
    fr_tB (hC.on rfl) (hM.on rfl) (sm_tB h),
    (fun t ht => by rw [m9]; exact sm_vJ h t ht),
    fr_vH  (hM.on rfl) (sm_vH h),
    fr_l0 (hC.on rfl) (hM.on rfl) (sm_l0 h),
    fr_l1 (hC.on rfl) (hM.on rfl) (sm_l1 h),
    fr_l3 (hC.on rfl) (hM.on rfl) (sm_l3 h),
    fr_l4 (hC.on rfl) (hM.on rfl) (sm_l4 h),
    fr_l5 (hC.on rfl) (hM.on rfl) (sm_l5 h),
    fr_vL  (hM.on rfl) (sm_vL h),
    fr_vW  (hM.on rfl) (sm_vW h),
    fr_vE  (hM.on rfl) (sm_vE h),
    fr_vD  (hM.on rfl) (sm_vD h),
    fr_h1 (hC.on rfl) (hM.on rfl) (sm_h1 h),
    fr_h2 (hC.on rfl) (hM.on rfl) (sm_h2 h),
    fr_h3 (hC.on rfl) (hM.on rfl) (sm_h3 h),
    fr_h4 (hC.on rfl) (hM.on rfl) (sm_h4 h),
    fr_h5 (hC.on rfl) (hM.on rfl) (sm_h5 h),
    (fun t ht => by rw [m9, (hM.on (K := [5600]) rfl 5600 (by decide)).1, (hM.on (K := [5700]) rfl 5700 (by decide)).1]; exact sm_z1 h t ht),
    fr_z2  (hM.on rfl) (sm_z2 h),
    fr_z3  (hM.on rfl) (sm_z3 h),
    fr_e1 (hC.on rfl) (hM.on rfl) (sm_e1 h),
    fr_e2  (hM.on rfl) (sm_e2 h),
    fr_e3 (hC.on rfl) (hM.on rfl) (sm_e3 h),
    fr_o1  (hM.on rfl) (sm_o1 h),
    fr_o2 (hC.on rfl) (hM.on rfl) (sm_o2 h),
    fr_o3 (hC.on rfl) (hM.on rfl) (sm_o3 h),
    fr_o4 (hC.on rfl) (hM.on rfl) (sm_o4 h),
    fr_o5 (hC.on rfl) (hM.on rfl) (sm_o5 h),
    fr_o6  (hM.on rfl) (sm_o6 h),
    fr_g1 (hC.on rfl) (hM.on rfl) (sm_g1 h),
    fr_d1 (hC.on rfl) (hM.on rfl) (sm_d1 h),
    fr_t1 (hC.on rfl) (hM.on rfl) (sm_t1 h),
    fr_x1 hCt hMt (sm_x1 h),
    fr_a1 (hC.on rfl) (hM.on rfl) (sm_a1 h),
    fr_a2 (hC.on rfl) (hM.on rfl) (sm_a2 h),
    fr_p1 (hC.on rfl) (hM.on rfl) (sm_p1 h),
    fr_p2 (hC.on rfl) (hM.on rfl) (sm_p2 h)⟩
    · rw [if_neg hk, if_neg hk]
      exact QA_same h rfl rfl
  · rw [e1, e2]
    exact QA_same h rfl rfl
theorem in_lo {x lo hi : Int32} (h : x < lo) : fX12_in x lo hi = 0 := by unfold fX12_in; rw [if_pos h]
theorem in_hi {x lo hi : Int32} (h : hi < x) : fX12_in x lo hi = 0 := by unfold fX12_in; rw [if_pos h, ite_self]
theorem in_ok {x lo hi : Nat} (h1 : lo ≤ x) (h2 : x ≤ hi) (h3 : hi < 2 ^ 31) : fX12_in (nI x) (nI lo) (nI hi) = 1 := by
  unfold fX12_in
  rw [if_neg (nI_nlt h1 (by omega)), if_neg (nI_nlt h2 h3)]
theorem one_ne : ¬ (1 : Int32) = 0 := by decide
/-- one after n -/
theorem nI_aft {x : Int32} {n : Nat} (hn : n + 1 < 2 ^ 31) (h : nI n < x) : nI (n + 1) ≤ x := by
  have hx := Int32.lt_iff_toInt_lt.mp h
  rw [nI_toInt (by omega)] at hx
  refine Int32.le_iff_toInt_le.mpr ?_
  rw [nI_toInt hn]
  omega
theorem qs_copy {C M : Mem} {nS nL : Nat} (h : Sim C M nS nL) (a1 a2 : Int32) : QA nS nL (fX11_copy a1 a2 C) (fX12_copy a1 a2 M) := by
  unfold fX11_copy fX12_copy
  rcases st_c h a1 with ⟨s, hs, hb, rfl, e1, e2⟩ | ⟨e1, e2⟩
  · rw [e1, e2]
    simp only [nm_q, bd_s, oc_S]
    rw [if_neg one_ne]
    rcases rg_c a2 0 999 (by decide) (by decide) with ⟨h1, h2⟩ | ⟨h1, h2⟩ | ⟨r, -, hr, rfl⟩
    · rw [if_pos (show a2 < 0 from h1), in_lo (show a2 < 0 from h1)]
      exact QA_same h rfl rfl
    · rw [if_neg (show ¬ a2 ≤ 999 from h2), ite_self, in_hi (show (999 : Int32) < a2 from h1)]
      exact QA_same h rfl rfl
    · rw [show fX12_in (nI r) 0 999 = 1 from in_ok (lo := 0) (hi := 999) (Nat.zero_le _) hr (by decide), if_neg one_ne, if_neg (nI_pos (by omega)), if_pos (show nI r ≤ 999 from nI_le hr (by decide))]
      obtain ⟨w, hw, m0, c0, hcl⟩ := ncL h
      rw [m0, c0]
      by_cases hf : w = 60
      · subst hf
        rw [if_neg (by decide), if_pos (by decide)]
        exact QA_same h rfl rfl
      · rw [if_pos (show nI w < 60 from nI_lt (b := 60) (by omega) (by decide)), if_neg (show ¬ nI w = 60 from fun z => hf ((nI_eq (b := 60) (by omega) (by decide)).mp z))]
        unfold fX2_add
        simp only [nm_q, mgI_I, mgL_L, mgR_R, mgI_L, mgI_R, mgL_I, mgL_R, mgR_I, mgR_L, Nat.reduceEqDiff, false_and, and_false, true_and, and_true, ↓reduceIte, c0, m0, nI_clamp (show w < 2 ^ 31 by omega), ix_n (show w < 60 by omega) (show 60 < 2 ^ 31 by omega), bE_s, nI_1]
        rw [show nI (w + 1) - (1 : Int32) = nI w from pk_sub (a := w + 1) (b := 1) (by omega)]
        refine ⟨_, _, _, rfl, rfl, ?_⟩
        generalize hC' : msI (msI (msI (msI C 2600 0 w (nI s)) 2700 0 w (nI r)) 2500 0 w (-1)) 201 0 0 (nI (w + 1)) = C'
        generalize hM' : msI (msI (msI (msI M 8400 0 w (nI s)) 8500 0 w (nI r)) 8600 0 w (-1)) 1246 0 0 (nI (w + 1)) = M'
        have hC : EqOff [2600, 2700, 2500, 201] C C' := by subst hC'; exact (((EqOff.refl.I rfl).I rfl).I rfl).I rfl
        have hM : EqOff [8400, 8500, 8600, 1246] M M' := by subst hM'; exact (((EqOff.refl.I rfl).I rfl).I rfl).I rfl
        have hCt := hC.txC rfl
        have hMt := hM.txM rfl
        have n1 : mgI M' 1246 0 0 = nI (w + 1) := by subst hM'; simp only [mgI_I, mgL_L, mgR_R, mgI_L, mgI_R, mgL_I, mgL_R, mgR_I, mgR_L, Nat.reduceEqDiff, false_and, and_false, true_and, and_true, ↓reduceIte]
        have n2 : mgI C' 201 0 0 = nI (w + 1) := by subst hC'; simp only [mgI_I, mgL_L, mgR_R, mgI_L, mgI_R, mgL_I, mgL_R, mgR_I, mgR_L, Nat.reduceEqDiff, false_and, and_false, true_and, and_true, ↓reduceIte]
        have n3 : (mgI M' 1246 0 0).toNatClampNeg = w + 1 := by rw [n1, nI_clamp (by omega)]
        have x3 : ∀ t, mgI C' 2600 0 t = if t = w then nI s else mgI C 2600 0 t := fun t => by subst hC'; simp only [mgI_I, mgL_L, mgR_R, mgI_L, mgI_R, mgL_I, mgL_R, mgR_I, mgR_L, Nat.reduceEqDiff, false_and, and_false, true_and, and_true, ↓reduceIte]
        have x4 : ∀ t, mgI C' 2700 0 t = if t = w then nI r else mgI C 2700 0 t := fun t => by subst hC'; simp only [mgI_I, mgL_L, mgR_R, mgI_L, mgI_R, mgL_I, mgL_R, mgR_I, mgR_L, Nat.reduceEqDiff, false_and, and_false, true_and, and_true, ↓reduceIte]
        have x5 : ∀ t, mgI C' 2500 0 t = if t = w then -1 else mgI C 2500 0 t := fun t => by subst hC'; simp only [mgI_I, mgL_L, mgR_R, mgI_L, mgI_R, mgL_I, mgL_R, mgR_I, mgR_L, Nat.reduceEqDiff, false_and, and_false, true_and, and_true, ↓reduceIte]
        have y3 : ∀ t, mgI M' 8400 0 t = if t = w then nI s else mgI M 8400 0 t := fun t => by subst hM'; simp only [mgI_I, mgL_L, mgR_R, mgI_L, mgI_R, mgL_I, mgL_R, mgR_I, mgR_L, Nat.reduceEqDiff, false_and, and_false, true_and, and_true, ↓reduceIte]
        have y4 : ∀ t, mgI M' 8500 0 t = if t = w then nI r else mgI M 8500 0 t := fun t => by subst hM'; simp only [mgI_I, mgL_L, mgR_R, mgI_L, mgI_R, mgL_I, mgL_R, mgR_I, mgR_L, Nat.reduceEqDiff, false_and, and_false, true_and, and_true, ↓reduceIte]
        have y5 : ∀ t, mgI M' 8600 0 t = if t = w then -1 else mgI M 8600 0 t := fun t => by subst hM'; simp only [mgI_I, mgL_L, mgR_R, mgI_L, mgI_R, mgL_I, mgL_R, mgR_I, mgR_L, Nat.reduceEqDiff, false_and, and_false, true_and, and_true, ↓reduceIte]
        have g3 : ∀ t, t < w + 1 → mgI C' 2600 0 t = mgI M' 8400 0 t := fun t ht => by
          rw [x3, y3]; by_cases e : t = w
          · rw [if_pos e, if_pos e]
          · rw [if_neg e, if_neg e]; exact sm_o3 h t (by rw [hcl]; omega)
        have g4 : ∀ t, t < w + 1 → mgI C' 2700 0 t = mgI M' 8500 0 t := fun t ht => by
          rw [x4, y4]; by_cases e : t = w
          · rw [if_pos e, if_pos e]
          · rw [if_neg e, if_neg e]; exact sm_o4 h t (by rw [hcl]; omega)
        have g5 : ∀ t, t < w + 1 → mgI C' 2500 0 t = mgI M' 8600 0 t := fun t ht => by
          rw [x5, y5]; by_cases e : t = w
          · rw [if_pos e, if_pos e]
          · rw [if_neg e, if_neg e]; exact sm_o5 h t (by rw [hcl]; omega)
        have g6 : f_g1 C' M' nS nL := by
          obtain ⟨d, u, q1, q2, q3, q4, q5, q6, q7⟩ := sm_g1 h
          rw [hcl] at q7
          have k := hC.on (K := [100, 101, 2100, 2200, 2300, 2400]) rfl
          have k2 := hM.on (K := [1224, 1225, 7000, 7100, 7200, 7300]) rfl
          unfold f_g1
          rw [n3]
          refine ⟨d, u, q1, ?_, ?_, ?_, ?_, fun j hj => ?_, fun j hj => ?_⟩
          · rw [(k2 1224 (by decide)).1]; exact q2
          · rw [(k2 1225 (by decide)).1]; exact q3
          · rw [(k 100 (by decide)).1]; exact q4
          · rw [(k 101 (by decide)).1]; exact q5
          · rw [(k 2100 (by decide)).1, (k 2200 (by decide)).1, (k 2300 (by decide)).1, (k 2400 (by decide)).1, (k2 7000 (by decide)).1, (k2 7100 (by decide)).1, (k2 7200 (by decide)).1, (k2 7300 (by decide)).1]
            exact q6 j hj
          · rw [(k2 7000 (by decide)).1, (k2 7100 (by decide)).1, (k2 7200 (by decide)).1, (k2 7300 (by decide)).1]
            have := q7 j hj
            exact ⟨this.1.grow (Nat.le_refl _) (Nat.le_succ _), this.2.grow (Nat.le_refl _) (Nat.le_succ _)⟩
        exact ⟨fr_b1 (sm_b1 h),
    fr_c1 (hC.on rfl)  (sm_c1 h),
    fr_c2  (hM.on rfl) (sm_c2 h),
    fr_r1 (hC.on rfl)  (sm_r1 h),
    fr_r2 (hC.on rfl)  (sm_r2 h),
    fr_s0 (hC.on rfl)  (sm_s0 h),
    fr_sK (hC.on rfl) (hM.on rfl) (sm_sK h),
    fr_sM (hC.on rfl) (hM.on rfl) (sm_sM h),
    fr_sA (hC.on rfl) (hM.on rfl) (sm_sA h),
    fr_sB (hC.on rfl) (hM.on rfl) (sm_sB h),
    fr_sI (hC.on rfl) (hM.on rfl) (sm_sI h),
    fr_sW (hC.on rfl) (hM.on rfl) (sm_sW h),
    fr_sP (hC.on rfl) (hM.on rfl) (sm_sP h),
    fr_sH (hC.on rfl) (hM.on rfl) (sm_sH h),
    fr_sT (hC.on rfl) (hM.on rfl) (sm_sT h),
    fr_vK  (hM.on rfl) (sm_vK h),
    fr_vB  (hM.on rfl) (sm_vB h),
    fr_n1  (hM.on rfl) (sm_n1 h),
    fr_n2 (hC.on rfl) (hM.on rfl) (sm_n2 h),
    fr_vM  (hM.on rfl) (sm_vM h),
    fr_vT  (hM.on rfl) (sm_vT h),
    fr_tB (hC.on rfl) (hM.on rfl) (sm_tB h),
    fr_vJ  (hM.on rfl) (sm_vJ h),
    fr_vH  (hM.on rfl) (sm_vH h),
    fr_l0 (hC.on rfl) (hM.on rfl) (sm_l0 h),
    fr_l1 (hC.on rfl) (hM.on rfl) (sm_l1 h),
    fr_l3 (hC.on rfl) (hM.on rfl) (sm_l3 h),
    fr_l4 (hC.on rfl) (hM.on rfl) (sm_l4 h),
    fr_l5 (hC.on rfl) (hM.on rfl) (sm_l5 h),
    fr_vL  (hM.on rfl) (sm_vL h),
    fr_vW  (hM.on rfl) (sm_vW h),
    fr_vE  (hM.on rfl) (sm_vE h),
    fr_vD  (hM.on rfl) (sm_vD h),
    fr_h1 (hC.on rfl) (hM.on rfl) (sm_h1 h),
    fr_h2 (hC.on rfl) (hM.on rfl) (sm_h2 h),
    fr_h3 (hC.on rfl) (hM.on rfl) (sm_h3 h),
    fr_h4 (hC.on rfl) (hM.on rfl) (sm_h4 h),
    fr_h5 (hC.on rfl) (hM.on rfl) (sm_h5 h),
    fr_z1  (hM.on rfl) (sm_z1 h),
    fr_z2  (hM.on rfl) (sm_z2 h),
    fr_z3  (hM.on rfl) (sm_z3 h),
    fr_e1 (hC.on rfl) (hM.on rfl) (sm_e1 h),
    fr_e2  (hM.on rfl) (sm_e2 h),
    fr_e3 (hC.on rfl) (hM.on rfl) (sm_e3 h),
    (by unfold f_o1; rw [n3, n1]; exact ⟨rfl, by omega⟩),
    (by unfold f_o2; rw [n1, n2]),
    (fun t ht => g3 t (by rw [n3] at ht; exact ht)),
    (fun t ht => g4 t (by rw [n3] at ht; exact ht)),
    (fun t ht => g5 t (by rw [n3] at ht; exact ht)),
    (fun t ht => by rw [n3] at ht; rw [y3]; split; exact ⟨s, hs, rfl⟩; exact sm_o6 h t (by rw [hcl]; omega)),
    g6,
    fr_d1 (hC.on rfl) (hM.on rfl) (sm_d1 h),
    fr_t1 (hC.on rfl) (hM.on rfl) (sm_t1 h),
    fr_x1 hCt hMt (sm_x1 h),
    fr_a1 (hC.on rfl) (hM.on rfl) (sm_a1 h),
    fr_a2 (hC.on rfl) (hM.on rfl) (sm_a2 h),
    fr_p1 (hC.on rfl) (hM.on rfl) (sm_p1 h),
    fr_p2 (hC.on rfl) (hM.on rfl) (sm_p2 h)⟩
  · rw [e1, e2]
    exact QA_same h rfl rfl
