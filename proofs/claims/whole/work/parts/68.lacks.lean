def cs (M : Mem) (c : Nat) : Nat := (mgI M 8400 0 c).toNatClampNeg
theorem cs_q {C M : Mem} {nS nL : Nat} (h : Sim C M nS nL) {c : Nat} (hc : c < (mgI M 1246 0 0).toNatClampNeg) : cs M c < nS ∧ mgI M 8400 0 c = nI (cs M c) := by
  have hb : nS ≤ 64 ∧ nL ≤ 200 := sm_b1 h
  obtain ⟨s, hs, e⟩ := sm_o6 h c hc
  have : cs M c = s := by unfold cs; rw [e, nI_clamp (by omega)]
  rw [this]
  exact ⟨hs, e⟩
theorem um_C {C M : Mem} {nS nL : Nat} (h : Sim C M nS nL) {C' : Mem} (fC : FrC C C') (x : Int64) : fX2_unmarkedOf x C' = some (orU (fun c => decide (mgI M 8600 0 c < 0) && hB (x &&& mgL C 505 0 0) (cs M c)) (mgI M 1246 0 0).toNatClampNeg) := by
  have hb : nS ≤ 64 ∧ nL ≤ 200 := sm_b1 h
  obtain ⟨nc, hnc, m0, c0, hcl⟩ := ncL h
  have hcs := fun c hc => cs_q h (c := c) hc
  have ho3 := fun c hc => sm_o3 h c hc
  have ho5 := fun c hc => sm_o5 h c hc
  rw [hcl] at hcs ho3 ho5 ⊢
  unfold fX2_unmarkedOf
  refine lpT (fun n i (y : Int64) => fX2_unmarkedOf_l5 C' x n y (nI i)) nc (fun i => orU (fun c => decide (mgI M 8600 0 c < 0) && hB (x &&& mgL C 505 0 0) (cs M c)) i) _ (fun n => ?_) (fun n i hi => ?_) FU 0 (Nat.zero_le _) (FU_lt (by omega))
  · simp only [fX2_unmarkedOf_l5, fX2_unmarkedOf_b5]
    rw [fC.i (f := 201) rfl, c0, if_pos (nI_le (Nat.le_refl _) (by omega))]
  · simp only [fX2_unmarkedOf_l5, fX2_unmarkedOf_b5]
    rw [fC.i (f := 201) rfl, c0, if_neg (nI_ge hi (by omega))]
    obtain ⟨k1, k2⟩ := hcs i hi
    simp only [nm_u, ix_n (show i < 60 by omega) (show 60 < 2 ^ 31 by omega), nI_clamp (show i < 2 ^ 31 by omega), nI_1, fC.i (f := 2500) rfl, fC.i (f := 2600) rfl, fC.l (f := 505) rfl, ho5 i hi, ho3 i hi, k2]
    by_cases e1 : 0 ≤ mgI M 8600 0 i
    · rw [if_pos e1, orU_n (by simp [Int32.not_lt.mpr e1])]
    · have e2 : mgI M 8600 0 i < 0 := Int32.not_le.mp e1
      rw [if_neg e1]
      by_cases e3 : hB (x &&& mgL C 505 0 0) (cs M i) = true
      · rw [if_neg (fun z => by rw [isIn_0 _ (by omega)] at z; rw [e3] at z; cases z), orU_y (by simp [e2, e3])]
      · rw [if_pos ((isIn_0 _ (by omega)).mpr (by simpa using e3)), orU_n (by simp [e3])]
theorem ro_C {C M : Mem} {nS nL : Nat} (h : Sim C M nS nL) (x : Int64) : fX2_reachOf x C = some (smU (fun c => if hB x c = true then mgI M 8500 0 c else 0) (mgI M 1246 0 0).toNatClampNeg) := by
  obtain ⟨nc, hnc, m0, c0, hcl⟩ := ncL h
  have ho4 := fun c hc => sm_o4 h c hc
  rw [hcl] at ho4 ⊢
  unfold fX2_reachOf
  refine lpT (fun n i (y : Int32) => fX2_reachOf_l5 C x n y (nI i)) nc (fun i => smU (fun c => if hB x c = true then mgI M 8500 0 c else 0) i) _ (fun n => ?_) (fun n i hi => ?_) FU 0 (Nat.zero_le _) (FU_lt (by omega))
  · simp only [fX2_reachOf_l5, fX2_reachOf_b5]
    rw [c0, if_pos (nI_le (Nat.le_refl _) (by omega))]
  · simp only [fX2_reachOf_l5, fX2_reachOf_b5]
    rw [c0, if_neg (nI_ge hi (by omega))]
    simp only [nm_u, ix_n (show i < 60 by omega) (show 60 < 2 ^ 31 by omega), nI_clamp (show i < 2 ^ 31 by omega), nI_1, ho4 i hi]
    show _ = fX2_reachOf_l5 C x n (smU (fun c => if hB x c = true then mgI M 8500 0 c else 0) i + (if hB x i = true then mgI M 8500 0 i else 0)) (nI (i + 1))
    by_cases e3 : hB x i = true
    · rw [if_neg (fun z => by rw [isIn_0 _ (by omega)] at z; rw [e3] at z; cases z), if_pos e3]
    · rw [if_pos ((isIn_0 _ (by omega)).mpr (by simpa using e3)), if_neg e3, Int32.add_zero]
theorem qs_lacks {C M : Mem} {nS nL : Nat} (h : Sim C M nS nL) (a1 : Int32) : QP (fX11_lacks a1 C) (fX12_lacks a1 M) := by
  have hb : nS ≤ 64 ∧ nL ≤ 200 := sm_b1 h
  obtain ⟨nc, hnc, m0, c0, hcl⟩ := ncL h
  have hcs := fun c hc => cs_q h (c := c) hc
  rw [hcl] at hcs
  unfold fX11_lacks fX12_lacks QP
  rw [um_C h FrC.refl, hcl]
  simp only [bd_u]
  generalize hp : (fun c => decide (mgI M 8600 0 c < 0) && hB (mgL C 505 0 0 &&& mgL C 505 0 0) (cs M c)) = p
  have hpn : ∀ c, c < nc → (p c = true ↔ ¬ mgI M 5400 0 (cs M c) < 0 ∧ mgI M 8600 0 c < 0) := fun c hc => by
    have := (hcs c hc).1
    rw [← hp]
    simp only [hB_and, sm_tB h (cs M c) (show cs M c < 64 by omega), Bool.and_self]
    simp [this, and_comm]
  rw [ro_C h, hcl]
  simp only [bd_u]
  generalize hg : (fun c => if p c = true then mgI M 8500 0 c else 0) = g
  have hsm : smU (fun c => if hB (orU p nc) c = true then mgI M 8500 0 c else 0) nc = smU g nc := smU_cong fun k hk => by
    rw [← hg, hB_orU (by omega), decide_eq_true hk, Bool.true_and]
  rw [hsm, nth_ans (N := nc) (p := p) (by omega) (fun k hk => hB_orU (by omega) k)]
  simp only [bd_u]
  have hs2 := scn_l (fun m c n => fX12_lacks_l15 M a1 m (nI c) (smU g n) (nI n)) (fun r => r) p a1 (fun c => if a1 = -1 then nI c else if a1 = -2 then smU g nc else -1) nc
    (fun m c => by
      simp only [fX12_lacks_l15, fX12_lacks_b15]
      rw [m0, if_pos (nI_le (Nat.le_refl _) (by omega))]
      by_cases z : a1 = -1
      · rw [if_pos z, if_pos z]
      · rw [if_neg z, if_neg z]
        by_cases z2 : a1 = -2
        · rw [if_pos z2, if_pos z2]
        · rw [if_neg z2, if_neg z2])
    (fun m c n hn hpp hc => by
      simp only [fX12_lacks_l15, fX12_lacks_b15]
      obtain ⟨k1, k2⟩ := hcs n hn
      rw [m0, if_neg (nI_ge hn (by omega))]
      simp only [nm_u, ix_n (show n < 60 by omega) (show 60 < 2 ^ 31 by omega), nI_clamp (show n < 2 ^ 31 by omega), k2, ix_n (show cs M n < 64 by omega) (show 64 < 2 ^ 31 by omega), nI_clamp (show cs M n < 2 ^ 31 by omega)]
      have := (hpn n hn).mp hpp
      rw [if_neg this.1, if_pos this.2, if_pos hc])
    (fun m c n hn hpp hc => by
      simp only [fX12_lacks_l15, fX12_lacks_b15]
      obtain ⟨k1, k2⟩ := hcs n hn
      rw [m0, if_neg (nI_ge hn (by omega))]
      simp only [nm_u, ix_n (show n < 60 by omega) (show 60 < 2 ^ 31 by omega), nI_clamp (show n < 2 ^ 31 by omega), k2, ix_n (show cs M n < 64 by omega) (show 64 < 2 ^ 31 by omega), nI_clamp (show cs M n < 2 ^ 31 by omega), nI_1]
      have := (hpn n hn).mp hpp
      rw [if_neg this.1, if_pos this.2, if_neg hc]
      have hgn : g n = mgI M 8500 0 n := by rw [← hg]; exact if_pos hpp
      show _ = fX12_lacks_l15 M a1 m (nI (c + 1)) (smU g n + g n) (nI (n + 1))
      rw [hgn])
    (fun m c n hn hpp => by
      simp only [fX12_lacks_l15, fX12_lacks_b15]
      obtain ⟨k1, k2⟩ := hcs n hn
      rw [m0, if_neg (nI_ge hn (by omega))]
      simp only [nm_u, ix_n (show n < 60 by omega) (show 60 < 2 ^ 31 by omega), nI_clamp (show n < 2 ^ 31 by omega), k2, ix_n (show cs M n < 64 by omega) (show 64 < 2 ^ 31 by omega), nI_clamp (show cs M n < 2 ^ 31 by omega), nI_1]
      have hgn : g n = 0 := by rw [← hg]; exact if_neg hpp
      have hsg : smU g (n + 1) = smU g n := by
        show smU g n + g n = _
        rw [hgn, Int32.add_zero]
      rw [hsg]
      by_cases z : mgI M 5400 0 (cs M n) < 0
      · rw [if_pos z]
      · rw [if_neg z]
        by_cases z2 : mgI M 8600 0 n < 0
        · exact absurd ((hpn n hn).mpr ⟨z, z2⟩) hpp
        · rw [if_neg z2])
    nc 0 0 FU (by omega) (FU_lt (by omega))
  have hs3 : fX12_lacks_l15 M a1 FU (0 : Int32) (0 : Int32) (0 : Int32) = some (scn p a1 (fun c => if a1 = -1 then nI c else if a1 = -2 then smU g nc else -1) nc 0 0) := hs2
  rw [hs3]
  by_cases h2 : a1 = -2
  · subst h2
    refine ⟨smU g nc, by rw [if_pos rfl], ?_⟩
    rw [if_pos (by decide), scn_lt (by decide) nc 0 0 (by omega), if_neg (by decide), if_pos rfl]
  · rw [if_neg h2]
    refine ⟨_, rfl, ?_⟩
    by_cases h1 : a1 = -1
    · subst h1
      unfold ans
      rw [if_pos (by decide), scn_lt (by decide) nc 0 0 (by omega), if_pos rfl, if_pos rfl, Nat.zero_add]
      congr 3
      funext k
      rw [Nat.zero_add]
    · unfold ans
      rw [if_neg h1]
      by_cases h0 : a1 < 0
      · have hlt : ¬ (-2 : Int32) ≤ a1 := fun z => by
          have t1 := Int32.le_iff_toInt_le.mp z
          have t2 := Int32.lt_iff_toInt_lt.mp h0
          have t3 : ¬ a1.toInt = -1 := fun y => h1 (Int32.toInt_inj.mp (y.trans (by decide)))
          have t4 : ¬ a1.toInt = -2 := fun y => h2 (Int32.toInt_inj.mp (y.trans (by decide)))
          have t5 : (-2 : Int32).toInt = -2 := by decide
          have t6 : (0 : Int32).toInt = 0 := by decide
          omega
        rw [if_neg hlt, if_pos h0]
      · have hge : (-2 : Int32) ≤ a1 := Int32.le_of_lt (Int32.lt_of_lt_of_le (by decide) (Int32.not_lt.mp h0))
        rw [if_pos hge, if_neg h0]
        congr 1
        exact scn_cong (fun c => by rw [if_neg h1, if_neg h2]) nc 0 0 (fun _ _ _ => rfl)
