def wsT (q : Nat → Int32) (M : Mem) : Nat → Mem
  | 0 => M
  | n + 1 => msI (wsT q M n) 7400 0 n (q n)
theorem wsT_E (q : Nat → Int32) (M : Mem) : ∀ N, EqOff [7400] M (wsT q M N)
  | 0 => EqOff.refl
  | N + 1 => (wsT_E q M N).I rfl
theorem wsT_v (q : Nat → Int32) (M : Mem) : ∀ N t, t < N → mgI (wsT q M N) 7400 0 t = q t
  | 0, t, h => absurd h (Nat.not_lt_zero t)
  | N + 1, t, h => by
    show mgI (msI (wsT q M N) 7400 0 N (q N)) 7400 0 t = q t
    simp only [uI_I, uL_L, uR_R, uI_L, uI_R, uL_I, uL_R, uR_I, uR_L, Nat.reduceEqDiff, false_and, and_false, true_and, and_true, ↓reduceIte]
    by_cases e : t = N
    · rw [if_pos e, e]
    · rw [if_neg e]
      exact wsT_v q M N t (by omega)
theorem fr74 {M M' : Mem} (h : EqOff [7400] M M') : FrM M M' := FrM.of (h.wide (by decide))
theorem qs_falls {C M : Mem} {nS nL : Nat} (h : Sim C M nS nL) (a1 a2 : Int32) : QA nS nL (fX11_falls a1 a2 C) (fX12_falls a1 a2 M) := by
  have hbb : nS ≤ 64 ∧ nL ≤ 200 := sm_b1 h
  unfold fX11_falls fX12_falls
  rcases st_c h a1 with ⟨s, hs, hb, rfl, e1, e2⟩ | ⟨e1, e2⟩
  · rw [e1, e2]
    simp only [nm_u, bd_u, oc_SU]
    rw [if_neg one_ne]
    obtain ⟨C4, M5, w1, w2, w3, w4, w5, w6⟩ := wa_q h 0 0
    have hm5 : mgI M5 1202 0 0 = nI nS := by rw [(w4.on (K := [1202]) rfl 1202 (by decide)).1]; exact (sm_c2 h).1
    generalize hq : (fun n => if mgI M5 6700 0 n ≤ 0 then (0 : Int32) else 1) = q
    generalize hM8 : wsT q M5 nS = M8
    have e8 : EqOff [7400] M5 M8 := by rw [← hM8]; exact wsT_E q M5 nS
    have v8 : ∀ t, t < nS → mgI M8 7400 0 t = q t := fun t ht => by rw [← hM8]; exact wsT_v q M5 nS t ht
    have h8 : Sim C4 M8 nS nL := (h.fr (frW w3) (frF w4)).fr FrC.refl (fr74 e8)
    obtain ⟨C7, M11, x1, x2, x3, x4, x5, x6⟩ := wa_q h8 (fX11_bit (nI s)) 0
    have hc4 : mgI C4 502 0 0 = nI nS := (sm_c1 h8).1
    have hc7 : mgI C7 502 0 0 = nI nS := by rw [(x3.on (K := [502]) rfl 502 (by decide)).1]; exact hc4
    rw [w1]
    simp only [bE_u]
    rw [cg_C hbb.1 hc4]
    simp only [bd_u]
    rw [x1]
    simp only [bE_u]
    rw [cg_C hbb.1 hc7]
    simp only [bd_u]
    generalize hp : (fun n => decide (¬ mgI M5 6700 0 n ≤ 0) && decide (mgI M11 6700 0 n ≤ 0)) = p
    rw [nth_ans hbb.1 (p := p) (fun k hk => by
      rw [hB_and, hB_xor, hB_m1 k hk, hB_orU hbb.1, hB_orU hbb.1, ← hp]
      by_cases hk2 : k < nS
      · rw [(w6 k hk2).1, (x6 k hk2).1]
        show (decide (k < nS) && decide (¬ mgI M5 6700 0 k ≤ 0) && ((decide (k < nS) && decide (¬ mgI M11 6700 0 k ≤ 0)) ^^ true)) = _
        by_cases z : mgI M11 6700 0 k ≤ 0 <;> simp [hk2, z]
      · simp [hk2])]
    simp only [bd_u]
    by_cases hi : (-1 : Int32) ≤ a2
    · rw [if_pos hi, w2]
      simp only [bE_u]
      have hl : fX12_falls_l23 (nI s) a2 FU (nI 0) M5 = fX12_falls_l23 (nI s) a2 1 (nI nS) M8 := by
        have := lpT (fun n i (x : Mem) => fX12_falls_l23 (nI s) a2 n (nI i) x) nS (wsT q M5) (fX12_falls_l23 (nI s) a2 1 (nI nS) M8) (fun n => ?_) (fun n i hi => ?_) FU 0 (Nat.zero_le _) (FU_lt (by omega))
        · exact this
        · rw [hM8]
          simp only [fX12_falls_l23, fX12_falls_b23]
          rw [(e8.on (K := [1202]) rfl 1202 (by decide)).1, hm5, if_pos (nI_le (Nat.le_refl _) (by omega)), if_pos (nI_le (Nat.le_refl _) (by omega))]
        · have g := (wsT_E q M5 i).on (K := [1202, 6700]) rfl
          simp only [fX12_falls_l23, fX12_falls_b23]
          rw [(g 1202 (by decide)).1, hm5, if_neg (nI_ge hi (by omega))]
          simp only [nm_u, ix_n (show i < 64 by omega) (show 64 < 2 ^ 31 by omega), nI_clamp (show i < 2 ^ 31 by omega), (g 6700 (by decide)).1, nI_1, nar0, nar1]
          have hqi : q i = if mgI M5 6700 0 i ≤ 0 then (0 : Int32) else 1 := by rw [← hq]
          show _ = fX12_falls_l23 (nI s) a2 n (nI (i + 1)) (msI (wsT q M5 i) 7400 0 i (q i))
          rw [hqi]
          by_cases e : mgI M5 6700 0 i ≤ 0
          · rw [if_pos e, if_pos e]
          · rw [if_neg e, if_neg e]
      rw [show (0 : Int32) = nI 0 from rfl, hl]
      simp only [fX12_falls_l23, fX12_falls_b23]
      rw [(e8.on (K := [1202]) rfl 1202 (by decide)).1, hm5, if_pos (nI_le (Nat.le_refl _) (by omega)), sft_q, show (0 : Int64) = 0 from rfl, x2]
      simp only [bE_u]
      have g11 := x4.on (K := [1202, 7400]) rfl
      have hm11 : mgI M11 1202 0 0 = nI nS := by rw [(g11 1202 (by decide)).1, (e8.on (K := [1202]) rfl 1202 (by decide)).1]; exact hm5
      have hpn : ∀ n, n < nS → (p n = true ↔ ¬ mgI M8 7400 0 n = 0 ∧ mgI M11 6700 0 n ≤ 0) := fun n hn => by
        rw [v8 n hn, ← hp, ← hq]
        show (decide (¬ mgI M5 6700 0 n ≤ 0) && decide (mgI M11 6700 0 n ≤ 0)) = true ↔ ¬ (if mgI M5 6700 0 n ≤ 0 then (0 : Int32) else 1) = 0 ∧ _
        by_cases z : mgI M5 6700 0 n ≤ 0
        · simp [z]
        · rw [if_neg z]
          simp [z, one_ne]
      have hs2 := scn_l (fun m c n => fX12_falls_l70 M11 a2 m (nI c) (nI n)) (fun r => (r, M11)) p a2 (fun c => if 0 ≤ a2 then -1 else nI c) nS
        (fun m c => by
          simp only [fX12_falls_l70, fX12_falls_b70]
          rw [hm11, if_pos (nI_le (Nat.le_refl _) (by omega))]
          by_cases z : 0 ≤ a2
          · rw [if_pos z, if_pos z]
          · rw [if_neg z, if_neg z])
        (fun m c n hn hpp hc => by
          simp only [fX12_falls_l70, fX12_falls_b70]
          rw [hm11, if_neg (nI_ge hn (by omega))]
          simp only [nm_u, ix_n (show n < 64 by omega) (show 64 < 2 ^ 31 by omega), nI_clamp (show n < 2 ^ 31 by omega), (g11 7400 (by decide)).1]
          have := (hpn n hn).mp hpp
          rw [if_neg this.1, if_pos this.2, if_pos hc])
        (fun m c n hn hpp hc => by
          simp only [fX12_falls_l70, fX12_falls_b70]
          rw [hm11, if_neg (nI_ge hn (by omega))]
          simp only [nm_u, ix_n (show n < 64 by omega) (show 64 < 2 ^ 31 by omega), nI_clamp (show n < 2 ^ 31 by omega), (g11 7400 (by decide)).1, nI_1]
          have := (hpn n hn).mp hpp
          rw [if_neg this.1, if_pos this.2, if_neg hc])
        (fun m c n hn hpp => by
          simp only [fX12_falls_l70, fX12_falls_b70]
          rw [hm11, if_neg (nI_ge hn (by omega))]
          simp only [nm_u, ix_n (show n < 64 by omega) (show 64 < 2 ^ 31 by omega), nI_clamp (show n < 2 ^ 31 by omega), (g11 7400 (by decide)).1, nI_1]
          by_cases z : mgI M8 7400 0 n = 0
          · rw [if_pos z]
          · rw [if_neg z]
            by_cases z2 : mgI M11 6700 0 n ≤ 0
            · exact absurd ((hpn n hn).mpr ⟨z, z2⟩) hpp
            · rw [if_neg z2])
        nS 0 0 FU (by omega) (FU_lt (by omega))
      rw [ans_end (by omega) hi] at hs2
      have hs3 : fX12_falls_l70 M11 a2 FU (0 : Int32) (0 : Int32) = some (ans p nS a2, M11) := hs2
      rw [hs3]
      exact QA_fr h rfl rfl ((frW w3).trans (frW x3)) (((frF w4).trans (fr74 e8)).trans (frF x4))
    · rw [if_neg hi]
      refine QA_fr h (r := -1) ?_ rfl ((frW w3).trans (frW x3)) FrM.refl
      have hlt : a2 < -1 := Int32.not_le.mp hi
      have : ans p nS a2 = -1 := by
        unfold ans
        rw [if_neg (fun z => by rw [z] at hlt; exact absurd hlt (by decide)), if_pos (Int32.lt_of_lt_of_le hlt (by decide))]
      rw [this]
  · rw [e1, e2]
    simp only [nm_u, bd_u, oc_NU, ↓reduceIte]
    exact QA_same h rfl rfl
theorem qs_turned {C M : Mem} {nS nL : Nat} (h : Sim C M nS nL) (a1 a2 : Int32) : QA nS nL (fX11_turned a1 a2 C) (fX12_turned a1 a2 M) := by
  have hbb : nS ≤ 64 ∧ nL ≤ 200 := sm_b1 h
  unfold fX11_turned fX12_turned
  rcases st_c h a1 with ⟨s, hs, hb, rfl, e1, e2⟩ | ⟨e1, e2⟩
  · rw [e1, e2]
    simp only [nm_u, bd_u, oc_SU]
    rw [if_neg one_ne]
    obtain ⟨C4, M5, w1, w2, w3, w4, w5, w6⟩ := wa_q h 0 0
    have hm5 : mgI M5 1202 0 0 = nI nS := by rw [(w4.on (K := [1202]) rfl 1202 (by decide)).1]; exact (sm_c2 h).1
    generalize hq : ysB M (cM M5) (oM M5) = q
    generalize hM8 : wsT q M5 nS = M8
    have e8 : EqOff [7400] M5 M8 := by rw [← hM8]; exact wsT_E q M5 nS
    have v8 : ∀ t, t < nS → mgI M8 7400 0 t = q t := fun t ht => by rw [← hM8]; exact wsT_v q M5 nS t ht
    have h8 : Sim C4 M8 nS nL := (h.fr (frW w3) (frF w4)).fr FrC.refl (fr74 e8)
    have f8 : FrM M M8 := (frF w4).trans (fr74 e8)
    obtain ⟨C7, M11, x1, x2, x3, x4, x5, x6⟩ := wa_q h8 (fX11_bit (nI s)) 0
    rw [w1]
    simp only [bE_u]
    rw [sy_C h w5 w3 w6]
    simp only [bd_u]
    rw [x1]
    simp only [bE_u]
    have ys8 : ∀ n, ysB M8 (cM M11) (oM M11) n = ysB M (cM M11) (oM M11) n := fun n => by unfold ysB; rw [f8.i (f := 5200) rfl]
    have ye8 : yeS M8 (cM M11) (oM M11) = yeS M (cM M11) (oM M11) := funext fun n => by unfold yeS; rw [ys8, f8.i (f := 5000) rfl]
    rw [sy_C h8 x5 x3 x6, ye8]
    simp only [bd_u]
    generalize hp : (fun n => yeS M (cM M5) (oM M5) n ^^ yeS M (cM M11) (oM M11) n) = p
    rw [nth_ans hbb.1 (p := p) (fun k hk => by
      rw [hB_xor, hB_orU hbb.1, hB_orU hbb.1, ← hp]
      by_cases hk2 : k < nS <;> simp [hk2])]
    simp only [bd_u]
    by_cases hi : (-1 : Int32) ≤ a2
    · rw [if_pos hi, w2]
      simp only [bE_u]
      have hl : fX12_turned_l23 (nI s) a2 FU (nI 0) M5 = fX12_turned_l23 (nI s) a2 1 (nI nS) M8 := by
        have := lpT (fun n i (x : Mem) => fX12_turned_l23 (nI s) a2 n (nI i) x) nS (wsT q M5) (fX12_turned_l23 (nI s) a2 1 (nI nS) M8) (fun n => ?_) (fun n i hi => ?_) FU 0 (Nat.zero_le _) (FU_lt (by omega))
        · exact this
        · rw [hM8]
          simp only [fX12_turned_l23, fX12_turned_b23]
          rw [(e8.on (K := [1202]) rfl 1202 (by decide)).1, hm5, if_pos (nI_le (Nat.le_refl _) (by omega)), if_pos (nI_le (Nat.le_refl _) (by omega))]
        · have g := (wsT_E q M5 i).on (K := [1202, 6700, 6800, 6900, 5200]) rfl
          simp only [fX12_turned_l23, fX12_turned_b23]
          rw [(g 1202 (by decide)).1, hm5, if_neg (nI_ge hi (by omega))]
          have hy : fX12_isYes (nI i) (wsT q M5 i) = some (q i) := by
            have := ys_M h w4 w5 hi
            unfold fX12_isYes at this ⊢
            rw [(g 6700 (by decide)).1, (g 6800 (by decide)).1, (g 6900 (by decide)).1, (g 5200 (by decide)).1, this, hq]
          rw [hy]
          simp only [bd_u, nm_u, ix_n (show i < 64 by omega) (show 64 < 2 ^ 31 by omega), nI_clamp (show i < 2 ^ 31 by omega), nI_1]
          show _ = fX12_turned_l23 (nI s) a2 n (nI (i + 1)) (msI (wsT q M5 i) 7400 0 i (q i))
          have hqi : q i = 0 ∨ q i = 1 := by rw [← hq]; exact ys_01 M _ _ i
          rcases hqi with hqi | hqi
          · rw [hqi, nar0]
          · rw [hqi, nar1]
      rw [show (0 : Int32) = nI 0 from rfl, hl]
      simp only [fX12_turned_l23, fX12_turned_b23]
      rw [(e8.on (K := [1202]) rfl 1202 (by decide)).1, hm5, if_pos (nI_le (Nat.le_refl _) (by omega)), sft_q, x2]
      simp only [bE_u]
      have g11 := x4.on (K := [1202, 7400, 5000]) rfl
      have hm11 : mgI M11 1202 0 0 = nI nS := by rw [(g11 1202 (by decide)).1, (e8.on (K := [1202]) rfl 1202 (by decide)).1]; exact hm5
      have h5 : mgI M11 5000 = mgI M 5000 := (g11 5000 (by decide)).1.trans (f8.i rfl)
      have hy11 : ∀ n, n < nS → fX12_isYes (nI n) M11 = some (ysB M (cM M11) (oM M11) n) := fun n hn => by rw [ys_M h8 x4 x5 hn, ys8]
      have hpn : ∀ n, n < nS → (p n = true ↔ mgI M 5000 0 n = 3 ∧ ¬ mgI M8 7400 0 n = ysB M (cM M11) (oM M11) n) := fun n hn => by
        rw [v8 n hn, ← hp, ← hq]
        show ((decide (mgI M 5000 0 n = 3 ∧ ysB M (cM M5) (oM M5) n = 1)) ^^ (decide (mgI M 5000 0 n = 3 ∧ ysB M (cM M11) (oM M11) n = 1))) = true ↔ _
        by_cases z : mgI M 5000 0 n = 3
        · rcases ys_01 M (cM M5) (oM M5) n with a | a <;> rcases ys_01 M (cM M11) (oM M11) n with b | b <;> rw [a, b] <;> simp [z]
        · simp [z]
      have hs2 := scn_l (fun m c n => fX12_turned_l61 M11 a2 m (nI c) (nI n)) (fun r => (r, M11)) p a2 (fun c => if 0 ≤ a2 then -1 else nI c) nS
        (fun m c => by
          simp only [fX12_turned_l61, fX12_turned_b61]
          rw [hm11, if_pos (nI_le (Nat.le_refl _) (by omega))]
          by_cases z : 0 ≤ a2
          · rw [if_pos z, if_pos z]
          · rw [if_neg z, if_neg z])
        (fun m c n hn hpp hc => by
          simp only [fX12_turned_l61, fX12_turned_b61]
          rw [hm11, if_neg (nI_ge hn (by omega))]
          simp only [nm_u, ix_n (show n < 64 by omega) (show 64 < 2 ^ 31 by omega), nI_clamp (show n < 2 ^ 31 by omega), (g11 7400 (by decide)).1, h5, hy11 n hn, bd_u]
          have := (hpn n hn).mp hpp
          rw [if_pos this.1, if_neg this.2, if_pos hc])
        (fun m c n hn hpp hc => by
          simp only [fX12_turned_l61, fX12_turned_b61]
          rw [hm11, if_neg (nI_ge hn (by omega))]
          simp only [nm_u, ix_n (show n < 64 by omega) (show 64 < 2 ^ 31 by omega), nI_clamp (show n < 2 ^ 31 by omega), (g11 7400 (by decide)).1, h5, hy11 n hn, bd_u, nI_1]
          have := (hpn n hn).mp hpp
          rw [if_pos this.1, if_neg this.2, if_neg hc])
        (fun m c n hn hpp => by
          simp only [fX12_turned_l61, fX12_turned_b61]
          rw [hm11, if_neg (nI_ge hn (by omega))]
          simp only [nm_u, ix_n (show n < 64 by omega) (show 64 < 2 ^ 31 by omega), nI_clamp (show n < 2 ^ 31 by omega), (g11 7400 (by decide)).1, h5, hy11 n hn, bd_u, nI_1]
          by_cases z : mgI M 5000 0 n = 3
          · rw [if_pos z]
            by_cases z2 : mgI M8 7400 0 n = ysB M (cM M11) (oM M11) n
            · rw [if_pos z2]
            · exact absurd ((hpn n hn).mpr ⟨z, z2⟩) hpp
          · rw [if_neg z])
        nS 0 0 FU (by omega) (FU_lt (by omega))
      rw [ans_end (by omega) hi] at hs2
      have hs3 : fX12_turned_l61 M11 a2 FU (0 : Int32) (0 : Int32) = some (ans p nS a2, M11) := hs2
      rw [hs3]
      exact QA_fr h rfl rfl ((frW w3).trans (frW x3)) (f8.trans (frF x4))
    · rw [if_neg hi]
      refine QA_fr h (r := -1) ?_ rfl ((frW w3).trans (frW x3)) FrM.refl
      have hlt : a2 < -1 := Int32.not_le.mp hi
      have : ans p nS a2 = -1 := by
        unfold ans
        rw [if_neg (fun z => by rw [z] at hlt; exact absurd hlt (by decide)), if_pos (Int32.lt_of_lt_of_le hlt (by decide))]
      rw [this]
  · rw [e1, e2]
    simp only [nm_u, bd_u, oc_NU, ↓reduceIte]
    exact QA_same h rfl rfl
