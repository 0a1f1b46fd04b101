theorem bit_ne {s k : Nat} (hs : s < 64) (hk : k < 64) : hB (fX11_bit (nI s)) k = decide (k = s) := hB_bit hs k
theorem tk_sim {C M : Mem} {nS nL : Nat} (h : Sim C M nS nL) {s w n : Nat} (hs : s < nS) (hw : w ≤ 2) (p : Int32) (hp : w = 0 → ∃ t, 1 ≤ t ∧ t ≤ 9 ∧ p = nI t) (hn : (mgI M 1201 0 0).toNatClampNeg = n) (hn5 : n ≤ 599) :
    Sim (msL (msI (msI (msI C 808 s 0 (nI w)) 809 s 0 p) 807 s 0 (nI n)) 505 0 0 (mgL C 505 0 0 ||| fX11_bit (nI s))) (msI (msI (msI M 5400 0 s (nI n)) 5500 0 s (nI w)) 5600 0 s p) nS nL := by
  have hb := (sm_b1 h).1
  generalize hC' : msL (msI (msI (msI C 808 s 0 (nI w)) 809 s 0 p) 807 s 0 (nI n)) 505 0 0 (mgL C 505 0 0 ||| fX11_bit (nI s)) = C'
  generalize hM' : msI (msI (msI M 5400 0 s (nI n)) 5500 0 s (nI w)) 5600 0 s p = M'
  have hC : EqOff [808, 809, 807, 505] C C' := by subst hC'; exact (((EqOff.refl.I rfl).I rfl).I rfl).L rfl
  have hM : EqOff [5400, 5500, 5600] M M' := by subst hM'; exact ((EqOff.refl.I rfl).I rfl).I rfl
  have hCt := hC.txC rfl
  have hMt := hM.txM rfl
  have x7 : ∀ t, mgI C' 807 t 0 = if t = s then nI n else mgI C 807 t 0 := fun t => by subst hC'; simp only [mgI_I, mgL_L, mgR_R, mgI_L, mgI_R, mgL_I, mgL_R, mgR_I, mgR_L, Nat.reduceEqDiff, false_and, and_false, true_and, and_true, ↓reduceIte]
  have x8 : ∀ t, mgI C' 808 t 0 = if t = s then nI w else mgI C 808 t 0 := fun t => by subst hC'; simp only [mgI_I, mgL_L, mgR_R, mgI_L, mgI_R, mgL_I, mgL_R, mgR_I, mgR_L, Nat.reduceEqDiff, false_and, and_false, true_and, and_true, ↓reduceIte]
  have x9 : ∀ t, mgI C' 809 t 0 = if t = s then p else mgI C 809 t 0 := fun t => by subst hC'; simp only [mgI_I, mgL_L, mgR_R, mgI_L, mgI_R, mgL_I, mgL_R, mgR_I, mgR_L, Nat.reduceEqDiff, false_and, and_false, true_and, and_true, ↓reduceIte]
  have xb : mgL C' 505 0 0 = mgL C 505 0 0 ||| fX11_bit (nI s) := by subst hC'; simp only [mgI_I, mgL_L, mgR_R, mgI_L, mgI_R, mgL_I, mgL_R, mgR_I, mgR_L, Nat.reduceEqDiff, false_and, and_false, true_and, and_true, ↓reduceIte]
  have y4 : ∀ t, mgI M' 5400 0 t = if t = s then nI n else mgI M 5400 0 t := fun t => by subst hM'; simp only [mgI_I, mgL_L, mgR_R, mgI_L, mgI_R, mgL_I, mgL_R, mgR_I, mgR_L, Nat.reduceEqDiff, false_and, and_false, true_and, and_true, ↓reduceIte]
  have y5 : ∀ t, mgI M' 5500 0 t = if t = s then nI w else mgI M 5500 0 t := fun t => by subst hM'; simp only [mgI_I, mgL_L, mgR_R, mgI_L, mgI_R, mgL_I, mgL_R, mgR_I, mgR_L, Nat.reduceEqDiff, false_and, and_false, true_and, and_true, ↓reduceIte]
  have y6 : ∀ t, mgI M' 5600 0 t = if t = s then p else mgI M 5600 0 t := fun t => by subst hM'; simp only [mgI_I, mgL_L, mgR_R, mgI_L, mgI_R, mgL_I, mgL_R, mgR_I, mgR_L, Nat.reduceEqDiff, false_and, and_false, true_and, and_true, ↓reduceIte]
  have k2 := hM.on (K := [1201, 5700, 5800]) rfl
  have gI : f_sI C' M' nS nL := fun t ht => by
    rw [x7, y4]; by_cases e : t = s
    · rw [if_pos e, if_pos e]
    · rw [if_neg e, if_neg e]; exact sm_sI h t ht
  have gW : f_sW C' M' nS nL := fun t ht => by
    rw [x8, y5]; by_cases e : t = s
    · rw [if_pos e, if_pos e]
    · rw [if_neg e, if_neg e]; exact sm_sW h t ht
  have gP : f_sP C' M' nS nL := fun t ht => by
    rw [x9, y6]; by_cases e : t = s
    · rw [if_pos e, if_pos e]
    · rw [if_neg e, if_neg e]; exact sm_sP h t ht
  have gT : f_vT C' M' nS nL := fun t ht => by
    rw [y4, y5, y6, (k2 1201 (by decide)).1, hn]
    by_cases e : t = s
    · rw [if_pos e, if_pos e, if_pos e]
      exact Or.inr ⟨n, w, Nat.le_refl _, rfl, hw, rfl, hp⟩
    · rw [if_neg e, if_neg e, if_neg e]
      have := sm_vT h t ht
      rw [hn] at this
      exact this
  have gB : f_tB C' M' nS nL := fun t ht => by
    rw [xb, hB_or, hB_bit (by omega), sm_tB h t ht, y4]
    by_cases e : t = s
    · subst e
      simp [hs, nI_pos (show n < 2 ^ 31 by omega)]
    · simp [e]
  have gz : f_z1 C' M' nS nL := fun t ht => by
    rw [y6, if_neg (by omega), (k2 5700 (by decide)).1, (k2 5800 (by decide)).1]
    exact sm_z1 h t ht
  exact ⟨fr_b1 (sm_b1 h),
    fr_c1 (hC.on rfl)  (sm_c1 h),
    fr_c2  (hM.on rfl) (sm_c2 h),
    fr_r1 (hC.on rfl)  (sm_r1 h),
    fr_r2 (hC.on rfl)  (sm_r2 h),
    fr_s0 (hC.on rfl)  (sm_s0 h),
    fr_sK (hC.on rfl) (hM.on rfl) (sm_sK h),
    fr_sM (hC.on rfl) (hM.on rfl) (sm_sM h),
    fr_sA (hC.on rfl) (hM.on rfl) (sm_sA h),
    fr_sB (hC.on rfl) (hM.on rfl) (sm_sB h),
    gI,
    gW,
    gP,
    fr_sH (hC.on rfl) (hM.on rfl) (sm_sH h),
    fr_sT (hC.on rfl) (hM.on rfl) (sm_sT h),
    fr_vK  (hM.on rfl) (sm_vK h),
    fr_vB  (hM.on rfl) (sm_vB h),
    fr_n1  (hM.on rfl) (sm_n1 h),
    fr_n2 (hC.on rfl) (hM.on rfl) (sm_n2 h),
    fr_vM  (hM.on rfl) (sm_vM h),
    gT,
    gB,
    fr_vJ  (hM.on rfl) (sm_vJ h),
    fr_vH  (hM.on rfl) (sm_vH h),
    fr_l0 (hC.on rfl) (hM.on rfl) (sm_l0 h),
    fr_l1 (hC.on rfl) (hM.on rfl) (sm_l1 h),
    fr_l3 (hC.on rfl) (hM.on rfl) (sm_l3 h),
    fr_l4 (hC.on rfl) (hM.on rfl) (sm_l4 h),
    fr_l5 (hC.on rfl) (hM.on rfl) (sm_l5 h),
    fr_vL  (hM.on rfl) (sm_vL h),
    fr_vW  (hM.on rfl) (sm_vW h),
    fr_vE  (hM.on rfl) (sm_vE h),
    fr_vD  (hM.on rfl) (sm_vD h),
    fr_h1 (hC.on rfl) (hM.on rfl) (sm_h1 h),
    fr_h2 (hC.on rfl) (hM.on rfl) (sm_h2 h),
    fr_h3 (hC.on rfl) (hM.on rfl) (sm_h3 h),
    fr_h4 (hC.on rfl) (hM.on rfl) (sm_h4 h),
    fr_h5 (hC.on rfl) (hM.on rfl) (sm_h5 h),
    gz,
    fr_z2  (hM.on rfl) (sm_z2 h),
    fr_z3  (hM.on rfl) (sm_z3 h),
    fr_e1 (hC.on rfl) (hM.on rfl) (sm_e1 h),
    fr_e2  (hM.on rfl) (sm_e2 h),
    fr_e3 (hC.on rfl) (hM.on rfl) (sm_e3 h),
    fr_o1  (hM.on rfl) (sm_o1 h),
    fr_o2 (hC.on rfl) (hM.on rfl) (sm_o2 h),
    fr_o3 (hC.on rfl) (hM.on rfl) (sm_o3 h),
    fr_o4 (hC.on rfl) (hM.on rfl) (sm_o4 h),
    fr_o5 (hC.on rfl) (hM.on rfl) (sm_o5 h),
    fr_o6  (hM.on rfl) (sm_o6 h),
    fr_g1 (hC.on rfl) (hM.on rfl) (sm_g1 h),
    fr_d1 (hC.on rfl) (hM.on rfl) (sm_d1 h),
    fr_t1 (hC.on rfl) (hM.on rfl) (sm_t1 h),
    fr_x1 hCt hMt (sm_x1 h),
    fr_a1 (hC.on rfl) (hM.on rfl) (sm_a1 h),
    fr_a2 (hC.on rfl) (hM.on rfl) (sm_a2 h),
    fr_p1 (hC.on rfl) (hM.on rfl) (sm_p1 h),
    fr_p2 (hC.on rfl) (hM.on rfl) (sm_p2 h)⟩
theorem qs_take {C M : Mem} {nS nL : Nat} (h : Sim C M nS nL) (a1 a2 a3 : Int32) : QA nS nL (fX11_take a1 a2 a3 C) (fX12_take a1 a2 a3 M) := by
  unfold fX11_take fX12_take
  obtain ⟨n, hn5, m0, c0, hcl⟩ := nwL h
  rcases st_c h a1 with ⟨s, hs, hb, rfl, e1, e2⟩ | ⟨e1, e2⟩
  · rw [e1, e2]
    simp only [nm_q, bd_s, oc_S]
    rw [if_neg one_ne]
    rcases rg_c a2 0 2 (by decide) (by decide) with ⟨h1, h2⟩ | ⟨h1, h2⟩ | ⟨w, -, hw, rfl⟩
    · rw [if_pos (show a2 < 0 from h1), in_lo (show a2 < 0 from h1)]
      exact QA_same h rfl rfl
    · rw [if_pos (show (2 : Int32) < a2 from h1), ite_self, in_hi (show (2 : Int32) < a2 from h1)]
      exact QA_same h rfl rfl
    · rw [show fX12_in (nI w) 0 2 = 1 from in_ok (lo := 0) (hi := 2) (Nat.zero_le _) hw (by decide), if_neg one_ne, if_neg (nI_pos (by omega)), if_neg (show ¬ (2 : Int32) < nI w from nI_nlt hw (by decide))]
      have hsim := fun (p : Int32) hp => tk_sim h hs hw p hp hcl hn5
      by_cases hw0 : w = 0
      · rw [if_pos (show nI w = 0 from congrArg nI hw0), if_pos (show nI w = 0 from congrArg nI hw0)]
        rcases rg_c a3 1 9 (by decide) (by decide) with ⟨h1, h2⟩ | ⟨h1, h2⟩ | ⟨p, hp1, hp9, rfl⟩
        · rw [if_pos (show a3 < 1 from h1), in_lo (show a3 < 1 from h1)]
          exact QA_same h rfl rfl
        · rw [if_neg (show ¬ a3 ≤ 9 from h2), ite_self, in_hi (show (9 : Int32) < a3 from h1)]
          exact QA_same h rfl rfl
        · rw [show fX12_in (nI p) 1 9 = 1 from in_ok (lo := 1) (hi := 9) hp1 hp9 (by decide), if_neg one_ne, if_neg (show ¬ nI p < 1 from nI_nlt (b := 1) hp1 (by omega)), if_pos (show nI p ≤ 9 from nI_le hp9 (by decide))]
          simp only [mgI_I, mgL_L, mgR_R, mgI_L, mgI_R, mgL_I, mgL_R, mgR_I, mgR_L, Nat.reduceEqDiff, false_and, and_false, true_and, and_true, ↓reduceIte, c0, m0, nI_clamp (show s < 2 ^ 31 by omega), ix_n (show s < 64 by omega) (show 64 < 2 ^ 31 by omega)]
          exact ⟨_, _, _, rfl, rfl, hsim (nI p) (fun _ => ⟨p, hp1, hp9, rfl⟩)⟩
      · rw [if_neg (show ¬ nI w = 0 from nI_ne0 (by omega) (by omega)), if_neg (show ¬ nI w = 0 from nI_ne0 (by omega) (by omega))]
        simp only [mgI_I, mgL_L, mgR_R, mgI_L, mgI_R, mgL_I, mgL_R, mgR_I, mgR_L, Nat.reduceEqDiff, false_and, and_false, true_and, and_true, ↓reduceIte, c0, m0, nI_clamp (show s < 2 ^ 31 by omega), ix_n (show s < 64 by omega) (show 64 < 2 ^ 31 by omega)]
        exact ⟨_, _, _, rfl, rfl, hsim a3 (fun e => absurd e hw0)⟩
  · rw [e1, e2]
    exact QA_same h rfl rfl
theorem qs_restore {C M : Mem} {nS nL : Nat} (h : Sim C M nS nL) (a1 : Int32) : QA nS nL (fX11_restore a1 C) (fX12_restore a1 M) := by
  unfold fX11_restore fX12_restore
  rcases st_c h a1 with ⟨s, hs, hb, rfl, e1, e2⟩ | ⟨e1, e2⟩
  · rw [e1, e2]
    simp only [mgI_I, mgL_L, mgR_R, mgI_L, mgI_R, mgL_I, mgL_R, mgR_I, mgR_L, Nat.reduceEqDiff, false_and, and_false, true_and, and_true, ↓reduceIte, nm_q, bd_s, oc_S, nI_clamp (show s < 2 ^ 31 by omega), ix_n (show s < 64 by omega) (show 64 < 2 ^ 31 by omega)]
    rw [if_neg one_ne, sm_sI h s hs]
    have hM : EqOff [5400, 5500] M (msI (msI M 5400 0 s (-1)) 5500 0 s (-1)) := (EqOff.refl.I rfl).I rfl
    generalize hM' : msI (msI M 5400 0 s (-1)) 5500 0 s (-1) = M' at hM ⊢
    have hMt := hM.txM rfl
    have y4 : ∀ t, mgI M' 5400 0 t = if t = s then -1 else mgI M 5400 0 t := fun t => by subst hM'; simp only [mgI_I, mgL_L, mgR_R, mgI_L, mgI_R, mgL_I, mgL_R, mgR_I, mgR_L, Nat.reduceEqDiff, false_and, and_false, true_and, and_true, ↓reduceIte]
    have y5 : ∀ t, mgI M' 5500 0 t = if t = s then -1 else mgI M 5500 0 t := fun t => by subst hM'; simp only [mgI_I, mgL_L, mgR_R, mgI_L, mgI_R, mgL_I, mgL_R, mgR_I, mgR_L, Nat.reduceEqDiff, false_and, and_false, true_and, and_true, ↓reduceIte]
    have k2 := hM.on (K := [1201, 5600]) rfl
    have gT : ∀ C', f_vT C' M' nS nL := fun C' t ht => by
      rw [y4, y5, (k2 1201 (by decide)).1, (k2 5600 (by decide)).1]
      by_cases e : t = s
      · rw [if_pos e, if_pos e]
        exact Or.inl ⟨rfl, rfl⟩
      · rw [if_neg e, if_neg e]
        exact sm_vT h t ht
    by_cases hv : 0 ≤ mgI M 5400 0 s
    · rw [if_pos hv, if_pos hv]
      refine ⟨_, _, _, rfl, rfl, ?_⟩
      generalize hC' : msL (msI (msI C 808 s 0 (-1)) 807 s 0 (-1)) 505 0 0 (mgL C 505 0 0 &&& (fX11_bit (nI s) ^^^ (-1 : Int64))) = C'
      have hC : EqOff [808, 807, 505] C C' := by subst hC'; exact ((EqOff.refl.I rfl).I rfl).L rfl
      have hCt := hC.txC rfl
      have x7 : ∀ t, mgI C' 807 t 0 = if t = s then -1 else mgI C 807 t 0 := fun t => by subst hC'; simp only [mgI_I, mgL_L, mgR_R, mgI_L, mgI_R, mgL_I, mgL_R, mgR_I, mgR_L, Nat.reduceEqDiff, false_and, and_false, true_and, and_true, ↓reduceIte]
      have x8 : ∀ t, mgI C' 808 t 0 = if t = s then -1 else mgI C 808 t 0 := fun t => by subst hC'; simp only [mgI_I, mgL_L, mgR_R, mgI_L, mgI_R, mgL_I, mgL_R, mgR_I, mgR_L, Nat.reduceEqDiff, false_and, and_false, true_and, and_true, ↓reduceIte]
      have xb : mgL C' 505 0 0 = mgL C 505 0 0 &&& (fX11_bit (nI s) ^^^ (-1 : Int64)) := by subst hC'; simp only [mgI_I, mgL_L, mgR_R, mgI_L, mgI_R, mgL_I, mgL_R, mgR_I, mgR_L, Nat.reduceEqDiff, false_and, and_false, true_and, and_true, ↓reduceIte]
      have gI : f_sI C' M' nS nL := fun t ht => by
        rw [x7, y4]; by_cases e : t = s
        · rw [if_pos e, if_pos e]
        · rw [if_neg e, if_neg e]; exact sm_sI h t ht
      have gW : f_sW C' M' nS nL := fun t ht => by
        rw [x8, y5]; by_cases e : t = s
        · rw [if_pos e, if_pos e]
        · rw [if_neg e, if_neg e]; exact sm_sW h t ht
      have gB : f_tB C' M' nS nL := fun t ht => by
        rw [xb, hB_and, hB_xor, hB_bit (by omega), hB_m1 t ht, sm_tB h t ht, y4]
        by_cases e : t = s
        · subst e
          simp
        · simp [e]
      exact ⟨fr_b1 (sm_b1 h),
    fr_c1 (hC.on rfl)  (sm_c1 h),
    fr_c2  (hM.on rfl) (sm_c2 h),
    fr_r1 (hC.on rfl)  (sm_r1 h),
    fr_r2 (hC.on rfl)  (sm_r2 h),
    fr_s0 (hC.on rfl)  (sm_s0 h),
    fr_sK (hC.on rfl) (hM.on rfl) (sm_sK h),
    fr_sM (hC.on rfl) (hM.on rfl) (sm_sM h),
    fr_sA (hC.on rfl) (hM.on rfl) (sm_sA h),
    fr_sB (hC.on rfl) (hM.on rfl) (sm_sB h),
    gI,
    gW,
    fr_sP (hC.on rfl) (hM.on rfl) (sm_sP h),
    fr_sH (hC.on rfl) (hM.on rfl) (sm_sH h),
    fr_sT (hC.on rfl) (hM.on rfl) (sm_sT h),
    fr_vK  (hM.on rfl) (sm_vK h),
    fr_vB  (hM.on rfl) (sm_vB h),
    fr_n1  (hM.on rfl) (sm_n1 h),
    fr_n2 (hC.on rfl) (hM.on rfl) (sm_n2 h),
    fr_vM  (hM.on rfl) (sm_vM h),
    gT _,
    gB,
    fr_vJ  (hM.on rfl) (sm_vJ h),
    fr_vH  (hM.on rfl) (sm_vH h),
    fr_l0 (hC.on rfl) (hM.on rfl) (sm_l0 h),
    fr_l1 (hC.on rfl) (hM.on rfl) (sm_l1 h),
    fr_l3 (hC.on rfl) (hM.on rfl) (sm_l3 h),
    fr_l4 (hC.on rfl) (hM.on rfl) (sm_l4 h),
    fr_l5 (hC.on rfl) (hM.on rfl) (sm_l5 h),
    fr_vL  (hM.on rfl) (sm_vL h),
    fr_vW  (hM.on rfl) (sm_vW h),
    fr_vE  (hM.on rfl) (sm_vE h),
    fr_vD  (hM.on rfl) (sm_vD h),
    fr_h1 (hC.on rfl) (hM.on rfl) (sm_h1 h),
    fr_h2 (hC.on rfl) (hM.on rfl) (sm_h2 h),
    fr_h3 (hC.on rfl) (hM.on rfl) (sm_h3 h),
    fr_h4 (hC.on rfl) (hM.on rfl) (sm_h4 h),
    fr_h5 (hC.on rfl) (hM.on rfl) (sm_h5 h),
    fr_z1  (hM.on rfl) (sm_z1 h),
    fr_z2  (hM.on rfl) (sm_z2 h),
    fr_z3  (hM.on rfl) (sm_z3 h),
    fr_e1 (hC.on rfl) (hM.on rfl) (sm_e1 h),
    fr_e2  (hM.on rfl) (sm_e2 h),
    fr_e3 (hC.on rfl) (hM.on rfl) (sm_e3 h),
    fr_o1  (hM.on rfl) (sm_o1 h),
    fr_o2 (hC.on rfl) (hM.on rfl) (sm_o2 h),
    fr_o3 (hC.on rfl) (hM.on rfl) (sm_o3 h),
    fr_o4 (hC.on rfl) (hM.on rfl) (sm_o4 h),
    fr_o5 (hC.on rfl) (hM.on rfl) (sm_o5 h),
    fr_o6  (hM.on rfl) (sm_o6 h),
    fr_g1 (hC.on rfl) (hM.on rfl) (sm_g1 h),
    fr_d1 (hC.on rfl) (hM.on rfl) (sm_d1 h),
    fr_t1 (hC.on rfl) (hM.on rfl) (sm_t1 h),
    fr_x1 hCt hMt (sm_x1 h),
    fr_a1 (hC.on rfl) (hM.on rfl) (sm_a1 h),
    fr_a2 (hC.on rfl) (hM.on rfl) (sm_a2 h),
    fr_p1 (hC.on rfl) (hM.on rfl) (sm_p1 h),
    fr_p2 (hC.on rfl) (hM.on rfl) (sm_p2 h)⟩
    · rw [if_neg hv, if_neg hv]
      refine ⟨_, _, _, rfl, rfl, ?_⟩
      have hq : mgI M 5400 0 s = -1 ∧ mgI M 5500 0 s = -1 := by
        rcases sm_vT h s hs with hq | ⟨m, w, hm, e, -⟩
        · exact hq
        · exact absurd (by rw [e]; exact nI_pos' (by have := (sm_n1 h).2; omega)) hv
      have z4 : ∀ t, mgI M' 5400 0 t = mgI M 5400 0 t := fun t => by
        rw [y4]; split
        · rename_i e; rw [e, hq.1]
        · rfl
      have z5 : ∀ t, mgI M' 5500 0 t = mgI M 5500 0 t := fun t => by
        rw [y5]; split
        · rename_i e; rw [e, hq.2]
        · rfl
      have hC : EqOff [807, 808, 505] C C := EqOff.refl
      have hCt := hC.txC rfl
      exact ⟨fr_b1 (sm_b1 h),
    fr_c1 (hC.on rfl)  (sm_c1 h),
    fr_c2  (hM.on rfl) (sm_c2 h),
    fr_r1 (hC.on rfl)  (sm_r1 h),
    fr_r2 (hC.on rfl)  (sm_r2 h),
    fr_s0 (hC.on rfl)  (sm_s0 h),
    fr_sK (hC.on rfl) (hM.on rfl) (sm_sK h),
    fr_sM (hC.on rfl) (hM.on rfl) (sm_sM h),
    fr_sA (hC.on rfl) (hM.on rfl) (sm_sA h),
    fr_sB (hC.on rfl) (hM.on rfl) (sm_sB h),
    (fun t ht => by rw [z4]; exact sm_sI h t ht),
    (fun t ht => by rw [z5]; exact sm_sW h t ht),
    fr_sP (hC.on rfl) (hM.on rfl) (sm_sP h),
    fr_sH (hC.on rfl) (hM.on rfl) (sm_sH h),
    fr_sT (hC.on rfl) (hM.on rfl) (sm_sT h),
    fr_vK  (hM.on rfl) (sm_vK h),
    fr_vB  (hM.on rfl) (sm_vB h),
    fr_n1  (hM.on rfl) (sm_n1 h),
    fr_n2 (hC.on rfl) (hM.on rfl) (sm_n2 h),
    fr_vM  (hM.on rfl) (sm_vM h),
    gT _,
    (fun t ht => by rw [z4]; exact sm_tB h t ht),
    fr_vJ  (hM.on rfl) (sm_vJ h),
    fr_vH  (hM.on rfl) (sm_vH h),
    fr_l0 (hC.on rfl) (hM.on rfl) (sm_l0 h),
    fr_l1 (hC.on rfl) (hM.on rfl) (sm_l1 h),
    fr_l3 (hC.on rfl) (hM.on rfl) (sm_l3 h),
    fr_l4 (hC.on rfl) (hM.on rfl) (sm_l4 h),
    fr_l5 (hC.on rfl) (hM.on rfl) (sm_l5 h),
    fr_vL  (hM.on rfl) (sm_vL h),
    fr_vW  (hM.on rfl) (sm_vW h),
    fr_vE  (hM.on rfl) (sm_vE h),
    fr_vD  (hM.on rfl) (sm_vD h),
    fr_h1 (hC.on rfl) (hM.on rfl) (sm_h1 h),
    fr_h2 (hC.on rfl) (hM.on rfl) (sm_h2 h),
    fr_h3 (hC.on rfl) (hM.on rfl) (sm_h3 h),
    fr_h4 (hC.on rfl) (hM.on rfl) (sm_h4 h),
    fr_h5 (hC.on rfl) (hM.on rfl) (sm_h5 h),
    fr_z1  (hM.on rfl) (sm_z1 h),
    fr_z2  (hM.on rfl) (sm_z2 h),
    fr_z3  (hM.on rfl) (sm_z3 h),
    fr_e1 (hC.on rfl) (hM.on rfl) (sm_e1 h),
    fr_e2  (hM.on rfl) (sm_e2 h),
    fr_e3 (hC.on rfl) (hM.on rfl) (sm_e3 h),
    fr_o1  (hM.on rfl) (sm_o1 h),
    fr_o2 (hC.on rfl) (hM.on rfl) (sm_o2 h),
    fr_o3 (hC.on rfl) (hM.on rfl) (sm_o3 h),
    fr_o4 (hC.on rfl) (hM.on rfl) (sm_o4 h),
    fr_o5 (hC.on rfl) (hM.on rfl) (sm_o5 h),
    fr_o6  (hM.on rfl) (sm_o6 h),
    fr_g1 (hC.on rfl) (hM.on rfl) (sm_g1 h),
    fr_d1 (hC.on rfl) (hM.on rfl) (sm_d1 h),
    fr_t1 (hC.on rfl) (hM.on rfl) (sm_t1 h),
    fr_x1 hCt hMt (sm_x1 h),
    fr_a1 (hC.on rfl) (hM.on rfl) (sm_a1 h),
    fr_a2 (hC.on rfl) (hM.on rfl) (sm_a2 h),
    fr_p1 (hC.on rfl) (hM.on rfl) (sm_p1 h),
    fr_p2 (hC.on rfl) (hM.on rfl) (sm_p2 h)⟩
  · rw [e1, e2]
    exact QA_same h rfl rfl
