/-- how the reference ends -/
def fiM (u : Int32) (M : Mem) : Option (Int32 × Mem) := bE (fX12_gives u M) fun b M' => if 0 ≤ b then (if b ≤ (1000 : Int32) then some (b, M') else some ((1000 : Int32), M')) else some ((0 : Int32), M')
theorem o203_q {C M M1 : Mem} {nS nL : Nat} (h : Sim C M nS nL) (hW : StW C M M1 nS) {s : Nat} (hs : s < nS) (u : Int32) (P : Int32 × Mem → Prop) (Mf : Mem) (hE : EqOff [8200] M1 Mf) (h4 : ∀ k, k < 4 → mgI Mf 8200 0 k = kF C M s nL k) (h0 : mgI Mf 8200 0 4 = 0)
    (kk : ∀ M', EqOff [8200] M1 M' → (∀ k, k < 7 → mgI M' 8200 0 k = kF C M s nL k) → Rt (fiM u M') P) : Rt (fX12_oddsOf_l203 (nI s) u FU (0 : Int32) Mf) P := by
  have hb : nS ≤ 64 ∧ nL ≤ 200 := sm_b1 h
  obtain ⟨nc, hnc, m0, c0, hcl⟩ := ncL h
  have hcs := fun c hc => cs_q h (c := c) hc
  rw [hcl] at hcs
  refine lpR (fun n i (x : Mem) => fX12_oddsOf_l203 (nI s) u n (nI i) x) P nc (fun i x => EqOff [8200] M1 x ∧ (∀ k, k < 4 → mgI x 8200 0 k = kF C M s nL k) ∧ mgI x 8200 0 4 = nI (ctU (pUn C M s) i)) (fun n x hI => ?_) (fun n i x hi hI k => ?_) FU 0 Mf (Nat.zero_le _) ⟨hE, h4, h0⟩ (FU_lt (by omega))
  · obtain ⟨i1, i2, i3⟩ := hI
    have fx : FrM M x := hW.1.trans (FrM.of (i1.wide (by decide)))
    simp only [fX12_oddsOf_l203, fX12_oddsOf_b203]
    rw [fx.i (f := 1246) rfl, m0, if_pos (nI_le (Nat.le_refl _) (by omega))]
    simp only [nm_u, ix_n (show s < 64 by omega) (show 64 < 2 ^ 31 by omega), nI_clamp (show s < 2 ^ 31 by omega), uI_I, uL_L, uR_R, uI_L, uI_R, uL_I, uL_R, uR_I, uR_L, Nat.reduceEqDiff, false_and, and_false, true_and, and_true, ↓reduceIte, fx.i (f := 5200) rfl, fx.i (f := 5800) rfl, cl_5, cl_6]
    have fin : ∀ y : Int32, y = kF C M s nL 6 → Rt (fiM u (msI (msI x 8200 0 5 (mgI M 5200 0 s)) 8200 0 6 y)) P := fun y hy => by
      refine kk _ ((i1.I rfl).I rfl) (fun k hk => ?_)
      have hk7 : k < 4 ∨ k = 4 ∨ k = 5 ∨ k = 6 := by omega
      rcases hk7 with hk4 | rfl | rfl | rfl
      · simp only [uI_I, uL_L, uR_R, uI_L, uI_R, uL_I, uL_R, uR_I, uR_L, Nat.reduceEqDiff, false_and, and_false, true_and, and_true, ↓reduceIte, if_neg (show ¬ k = 6 by omega), if_neg (show ¬ k = 5 by omega)]
        exact i2 k hk4
      · simp only [uI_I, uL_L, uR_R, uI_L, uI_R, uL_I, uL_R, uR_I, uR_L, Nat.reduceEqDiff, false_and, and_false, true_and, and_true, ↓reduceIte]
        rw [i3]
        unfold kF
        rw [hcl]
        rfl
      · simp only [uI_I, uL_L, uR_R, uI_L, uI_R, uL_I, uL_R, uR_I, uR_L, Nat.reduceEqDiff, false_and, and_false, true_and, and_true, ↓reduceIte]; rfl
      · simp only [uI_I, uL_L, uR_R, uI_L, uI_R, uL_I, uL_R, uR_I, uR_L, Nat.reduceEqDiff, false_and, and_false, true_and, and_true, ↓reduceIte]; exact hy
    by_cases hT : mgI M 5800 0 s = 0
    · rw [if_pos hT]
      exact fin 0 (show (0 : Int32) = if mgI M 5800 0 s = 0 then 0 else 1 by rw [if_pos hT])
    · rw [if_neg hT]
      exact fin 1 (show (1 : Int32) = if mgI M 5800 0 s = 0 then 0 else 1 by rw [if_neg hT])
  · obtain ⟨i1, i2, i3⟩ := hI
    have fx : FrM M x := hW.1.trans (FrM.of (i1.wide (by decide)))
    have hWx : StW C M x nS := hW.on i1 (FrM.of (i1.wide (by decide))) rfl
    obtain ⟨k1, k2⟩ := hcs i hi
    simp only [fX12_oddsOf_l203, fX12_oddsOf_b203]
    rw [fx.i (f := 1246) rfl, m0, if_neg (nI_ge hi (by omega))]
    simp only [nm_u, ix_n (show i < 60 by omega) (show 60 < 2 ^ 31 by omega), nI_clamp (show i < 2 ^ 31 by omega), fx.i (f := 8400) rfl, fx.i (f := 5400) rfl, fx.i (f := 8600) rfl, k2, isOn_q hWx hs hb.1 (show cs M i < 64 by omega), bd_u, cl_4, i3, nI_1, ix_n (show cs M i < 64 by omega) (show 64 < 2 ^ 31 by omega), nI_clamp (show cs M i < 2 ^ 31 by omega)]
    have hp : pUn C M s i = true ↔ hB (bl C s) (cs M i) = true ∧ ¬ mgI M 5400 0 (cs M i) < 0 ∧ mgI M 8600 0 i < 0 := by
      unfold pUn
      rw [hB_and, sm_tB h (cs M i) (by omega)]
      simp [k1, and_comm, and_left_comm, and_assoc]
    have add0 : ∀ y : Nat, nI y + (0 : Int32) = nI (y + 0) := fun y => nI_add y 0
    have no : ¬ pUn C M s i = true → Rt (fX12_oddsOf_l203 (nI s) u n (nI (i + 1)) (msI x 8200 0 4 (nI (ctU (pUn C M s) i) + (0 : Int32)))) P := fun hn => by
      refine k _ ⟨i1.I rfl, fun j hj => ?_, ?_⟩
      · simp only [uI_I, uL_L, uR_R, uI_L, uI_R, uL_I, uL_R, uR_I, uR_L, Nat.reduceEqDiff, false_and, and_false, true_and, and_true, ↓reduceIte, if_neg (show ¬ j = 4 by omega)]
        exact i2 j hj
      · simp only [uI_I, uL_L, uR_R, uI_L, uI_R, uL_I, uL_R, uR_I, uR_L, Nat.reduceEqDiff, false_and, and_false, true_and, and_true, ↓reduceIte]
        rw [add0]
        show nI (ctU (pUn C M s) i + 0) = nI (ctU (pUn C M s) i + if pUn C M s i = true then 1 else 0)
        rw [if_neg hn]
    by_cases e1 : hB (bl C s) (cs M i) = true
    · rw [if_pos e1, if_neg one_ne]
      by_cases e2 : mgI M 5400 0 (cs M i) < 0
      · rw [if_pos e2]
        exact no (fun z => (hp.mp z).2.1 e2)
      · rw [if_neg e2]
        by_cases e3 : 0 ≤ mgI M 8600 0 i
        · rw [if_pos e3]
          exact no (fun z => Int32.not_lt.mpr e3 (hp.mp z).2.2)
        · rw [if_neg e3]
          refine k _ ⟨i1.I rfl, fun j hj => ?_, ?_⟩
          · simp only [uI_I, uL_L, uR_R, uI_L, uI_R, uL_I, uL_R, uR_I, uR_L, Nat.reduceEqDiff, false_and, and_false, true_and, and_true, ↓reduceIte, if_neg (show ¬ j = 4 by omega)]
            exact i2 j hj
          · simp only [uI_I, uL_L, uR_R, uI_L, uI_R, uL_I, uL_R, uR_I, uR_L, Nat.reduceEqDiff, false_and, and_false, true_and, and_true, ↓reduceIte]
            show nI (ctU (pUn C M s) i + 1) = nI (ctU (pUn C M s) i + if pUn C M s i = true then 1 else 0)
            rw [if_pos (hp.mpr ⟨e1, e2, Int32.not_le.mp e3⟩)]
    · rw [if_neg e1, if_pos rfl]
      exact no (fun z => e1 (hp.mp z).1)
set_option maxHeartbeats 4000000 in
theorem o77_q {C M M1 : Mem} {nS nL : Nat} (h : Sim C M nS nL) (hW : StW C M M1 nS) {s : Nat} (hs : s < nS) (u : Int32) (P : Int32 × Mem → Prop) (Mf : Mem) (hE : EqOff [8200] M1 Mf) (h0 : mgI Mf 8200 0 0 = kF C M s nL 0) (h1 : mgI Mf 8200 0 1 = 0) (h2 : mgI Mf 8200 0 2 = 3) (h3 : mgI Mf 8200 0 3 = 0) (h4 : mgI Mf 8200 0 4 = 0)
    (kk : ∀ M', EqOff [8200] M1 M' → (∀ k, k < 7 → mgI M' 8200 0 k = kF C M s nL k) → Rt (fiM u M') P) : Rt (fX12_oddsOf_l77 (nI s) u FU (0 : Int32) Mf) P := by
  have hb : nS ≤ 64 ∧ nL ≤ 200 := sm_b1 h
  refine lpR (fun n i (x : Mem) => fX12_oddsOf_l77 (nI s) u n (nI i) x) P nL (fun i x => EqOff [8200] M1 x ∧ mgI x 8200 0 0 = kF C M s nL 0 ∧ mgI x 8200 0 1 = nI (acK M s i).1 ∧ mgI x 8200 0 2 = nI (acK M s i).2.1 ∧ mgI x 8200 0 3 = nI (acK M s i).2.2 ∧ mgI x 8200 0 4 = 0) (fun n x hI => ?_) (fun n i x hi hI k => ?_) FU 0 Mf (Nat.zero_le _) ⟨hE, h0, h1, h2, h3, h4⟩ (FU_lt (by omega))
  · obtain ⟨i1, j0, j1, j2, j3, j4⟩ := hI
    have fx : FrM M x := hW.1.trans (FrM.of (i1.wide (by decide)))
    obtain ⟨a1, a2, a3, a4⟩ := acK_b h s nL (Nat.le_refl _)
    simp only [fX12_oddsOf_l77, fX12_oddsOf_b77]
    rw [fx.i (f := 1212) rfl, (sm_c2 h).2, if_pos (nI_le (Nat.le_refl _) (by omega)), cl_3, j3, o203a, cl_2]
    simp only [nm_u]
    by_cases hz : (acK M s nL).2.2 = 0
    · rw [if_pos (show nI (acK M s nL).2.2 = 0 by rw [hz]; rfl)]
      refine o203_q h hW hs u P _ (i1.I rfl) (fun j hj => ?_) (by simp only [uI_I, uL_L, uR_R, uI_L, uI_R, uL_I, uL_R, uR_I, uR_L, Nat.reduceEqDiff, false_and, and_false, true_and, and_true, ↓reduceIte]; exact j4) kk
      have hj4 : j = 0 ∨ j = 1 ∨ j = 2 ∨ j = 3 := by omega
      rcases hj4 with rfl | rfl | rfl | rfl
      · simp only [uI_I, uL_L, uR_R, uI_L, uI_R, uL_I, uL_R, uR_I, uR_L, Nat.reduceEqDiff, false_and, and_false, true_and, and_true, ↓reduceIte]; exact j0
      · simp only [uI_I, uL_L, uR_R, uI_L, uI_R, uL_I, uL_R, uR_I, uR_L, Nat.reduceEqDiff, false_and, and_false, true_and, and_true, ↓reduceIte]; exact j1
      · simp only [uI_I, uL_L, uR_R, uI_L, uI_R, uL_I, uL_R, uR_I, uR_L, Nat.reduceEqDiff, false_and, and_false, true_and, and_true, ↓reduceIte]
        show (0 : Int32) = if (acK M s nL).2.2 = 0 then 0 else nI (acK M s nL).2.1
        rw [if_pos hz]
      · simp only [uI_I, uL_L, uR_R, uI_L, uI_R, uL_I, uL_R, uR_I, uR_L, Nat.reduceEqDiff, false_and, and_false, true_and, and_true, ↓reduceIte]; exact j3
    · rw [if_neg (nI_ne0 (by omega) (by omega))]
      refine o203_q h hW hs u P x i1 (fun j hj => ?_) j4 kk
      have hj4 : j = 0 ∨ j = 1 ∨ j = 2 ∨ j = 3 := by omega
      rcases hj4 with rfl | rfl | rfl | rfl
      · exact j0
      · exact j1
      · rw [j2]
        show nI (acK M s nL).2.1 = if (acK M s nL).2.2 = 0 then 0 else nI (acK M s nL).2.1
        rw [if_neg hz]
      · exact j3
  · obtain ⟨i1, j0, j1, j2, j3, j4⟩ := hI
    have fx : FrM M x := hW.1.trans (FrM.of (i1.wide (by decide)))
    obtain ⟨a1, a2, a3, a4⟩ := acK_b h s i (by omega)
    obtain ⟨w1, w2⟩ := wnL_q h hi
    obtain ⟨v1, v2⟩ := enL_q h hi
    simp only [fX12_oddsOf_l77, fX12_oddsOf_b77]
    rw [fx.i (f := 1212) rfl, (sm_c2 h).2, if_neg (nI_ge hi (by omega))]
    simp only [nm_u, ix_n (show i < 200 by omega) (show 200 < 2 ^ 31 by omega), nI_clamp (show i < 2 ^ 31 by omega), cl_1, cl_2, cl_3, uI_I, uL_L, uR_R, uI_L, uI_R, uL_I, uL_R, uR_I, uR_L, Nat.reduceEqDiff, false_and, and_false, true_and, and_true, ↓reduceIte, fx.i (f := 5900) rfl, fx.i (f := 6300) rfl, fx.i (f := 6100) rfl, fx.i (f := 6200) rfl, j1, j2, j3, w2, v2, nI_1]
    by_cases e1 : mgI M 5900 0 i = nI s
    · rw [if_pos e1]
      by_cases e2 : mgI M 6300 0 i = 0
      · rw [if_pos e2]
        have fin : ∀ y : Mem, EqOff [8200] M1 y → mgI y 8200 0 0 = kF C M s nL 0 → mgI y 8200 0 1 = nI (max (acK M s i).1 (wnL M i)) → mgI y 8200 0 2 = nI (min (acK M s i).2.1 (enL M i)) → mgI y 8200 0 3 = nI ((acK M s i).2.2 + 1) → mgI y 8200 0 4 = 0 → Rt (fX12_oddsOf_l77 (nI s) u n (nI (i + 1)) y) P := fun y y1 y2 y3 y4 y5 y6 =>
          k y ⟨y1, y2, by rw [acK_y ⟨e1, e2⟩]; exact y3, by rw [acK_y ⟨e1, e2⟩]; exact y4, by rw [acK_y ⟨e1, e2⟩]; exact y5, y6⟩
        by_cases e3 : wnL M i ≤ (acK M s i).1
        · rw [if_pos (nI_le e3 (by omega))]
          by_cases e4 : (acK M s i).2.1 ≤ enL M i
          · rw [if_pos (nI_le e4 (by omega))]
            refine fin _ (i1.I rfl) (by simp only [uI_I, uL_L, uR_R, uI_L, uI_R, uL_I, uL_R, uR_I, uR_L, Nat.reduceEqDiff, false_and, and_false, true_and, and_true, ↓reduceIte]; exact j0) ?_ ?_ (by simp only [uI_I, uL_L, uR_R, uI_L, uI_R, uL_I, uL_R, uR_I, uR_L, Nat.reduceEqDiff, false_and, and_false, true_and, and_true, ↓reduceIte]) (by simp only [uI_I, uL_L, uR_R, uI_L, uI_R, uL_I, uL_R, uR_I, uR_L, Nat.reduceEqDiff, false_and, and_false, true_and, and_true, ↓reduceIte]; exact j4)
            · simp only [uI_I, uL_L, uR_R, uI_L, uI_R, uL_I, uL_R, uR_I, uR_L, Nat.reduceEqDiff, false_and, and_false, true_and, and_true, ↓reduceIte]; rw [Nat.max_eq_left e3]; exact j1
            · simp only [uI_I, uL_L, uR_R, uI_L, uI_R, uL_I, uL_R, uR_I, uR_L, Nat.reduceEqDiff, false_and, and_false, true_and, and_true, ↓reduceIte]; rw [Nat.min_eq_left e4]; exact j2
          · rw [if_neg (nI_ge (by omega) (by omega))]
            refine fin _ ((i1.I rfl).I rfl) (by simp only [uI_I, uL_L, uR_R, uI_L, uI_R, uL_I, uL_R, uR_I, uR_L, Nat.reduceEqDiff, false_and, and_false, true_and, and_true, ↓reduceIte]; exact j0) ?_ ?_ (by simp only [uI_I, uL_L, uR_R, uI_L, uI_R, uL_I, uL_R, uR_I, uR_L, Nat.reduceEqDiff, false_and, and_false, true_and, and_true, ↓reduceIte]) (by simp only [uI_I, uL_L, uR_R, uI_L, uI_R, uL_I, uL_R, uR_I, uR_L, Nat.reduceEqDiff, false_and, and_false, true_and, and_true, ↓reduceIte]; exact j4)
            · simp only [uI_I, uL_L, uR_R, uI_L, uI_R, uL_I, uL_R, uR_I, uR_L, Nat.reduceEqDiff, false_and, and_false, true_and, and_true, ↓reduceIte]; rw [Nat.max_eq_left e3]; exact j1
            · simp only [uI_I, uL_L, uR_R, uI_L, uI_R, uL_I, uL_R, uR_I, uR_L, Nat.reduceEqDiff, false_and, and_false, true_and, and_true, ↓reduceIte]; rw [Nat.min_eq_right (by omega)]
        · rw [if_neg (nI_ge (by omega) (by omega))]
          by_cases e4 : (acK M s i).2.1 ≤ enL M i
          · rw [if_pos (nI_le e4 (by omega))]
            refine fin _ ((i1.I rfl).I rfl) (by simp only [uI_I, uL_L, uR_R, uI_L, uI_R, uL_I, uL_R, uR_I, uR_L, Nat.reduceEqDiff, false_and, and_false, true_and, and_true, ↓reduceIte]; exact j0) ?_ ?_ (by simp only [uI_I, uL_L, uR_R, uI_L, uI_R, uL_I, uL_R, uR_I, uR_L, Nat.reduceEqDiff, false_and, and_false, true_and, and_true, ↓reduceIte]) (by simp only [uI_I, uL_L, uR_R, uI_L, uI_R, uL_I, uL_R, uR_I, uR_L, Nat.reduceEqDiff, false_and, and_false, true_and, and_true, ↓reduceIte]; exact j4)
            · simp only [uI_I, uL_L, uR_R, uI_L, uI_R, uL_I, uL_R, uR_I, uR_L, Nat.reduceEqDiff, false_and, and_false, true_and, and_true, ↓reduceIte]; rw [Nat.max_eq_right (by omega)]
            · simp only [uI_I, uL_L, uR_R, uI_L, uI_R, uL_I, uL_R, uR_I, uR_L, Nat.reduceEqDiff, false_and, and_false, true_and, and_true, ↓reduceIte]; rw [Nat.min_eq_left e4]; exact j2
          · rw [if_neg (nI_ge (by omega) (by omega))]
            refine fin _ (((i1.I rfl).I rfl).I rfl) (by simp only [uI_I, uL_L, uR_R, uI_L, uI_R, uL_I, uL_R, uR_I, uR_L, Nat.reduceEqDiff, false_and, and_false, true_and, and_true, ↓reduceIte]; exact j0) ?_ ?_ (by simp only [uI_I, uL_L, uR_R, uI_L, uI_R, uL_I, uL_R, uR_I, uR_L, Nat.reduceEqDiff, false_and, and_false, true_and, and_true, ↓reduceIte]) (by simp only [uI_I, uL_L, uR_R, uI_L, uI_R, uL_I, uL_R, uR_I, uR_L, Nat.reduceEqDiff, false_and, and_false, true_and, and_true, ↓reduceIte]; exact j4)
            · simp only [uI_I, uL_L, uR_R, uI_L, uI_R, uL_I, uL_R, uR_I, uR_L, Nat.reduceEqDiff, false_and, and_false, true_and, and_true, ↓reduceIte]; rw [Nat.max_eq_right (by omega)]
            · simp only [uI_I, uL_L, uR_R, uI_L, uI_R, uL_I, uL_R, uR_I, uR_L, Nat.reduceEqDiff, false_and, and_false, true_and, and_true, ↓reduceIte]; rw [Nat.min_eq_right (by omega)]
      · rw [if_neg e2]
        exact k x ⟨i1, j0, by rw [acK_n (fun z => e2 z.2)]; exact j1, by rw [acK_n (fun z => e2 z.2)]; exact j2, by rw [acK_n (fun z => e2 z.2)]; exact j3, j4⟩
    · rw [if_neg e1]
      exact k x ⟨i1, j0, by rw [acK_n (fun z => e1 z.1)]; exact j1, by rw [acK_n (fun z => e1 z.1)]; exact j2, by rw [acK_n (fun z => e1 z.1)]; exact j3, j4⟩
theorem o22_q {C M M1 : Mem} {nS nL : Nat} (h : Sim C M nS nL) (hW : StW C M M1 nS) {s : Nat} (hs : s < nS) (u : Int32) (P : Int32 × Mem → Prop)
    (kk : ∀ M', EqOff [8200] M1 M' → (∀ k, k < 7 → mgI M' 8200 0 k = kF C M s nL k) → Rt (fiM u M') P) : Rt (fX12_oddsOf_l22 (nI s) u FU (0 : Int32) M1) P := by
  refine lpR (fun n i (x : Mem) => fX12_oddsOf_l22 (nI s) u n (nI i) x) P 7 (fun i x => EqOff [8200] M1 x ∧ ∀ k, k < i → mgI x 8200 0 k = 0) (fun n x hI => ?_) (fun n i x hi hI k => ?_) FU 0 M1 (Nat.zero_le _) ⟨EqOff.refl, fun k hk => absurd hk (Nat.not_lt_zero k)⟩ (FU_lt (by omega))
  · obtain ⟨i1, i2⟩ := hI
    have fx : FrM M x := hW.1.trans (FrM.of (i1.wide (by decide)))
    have hWx : StW C M x nS := hW.on i1 (FrM.of (i1.wide (by decide))) rfl
    simp only [fX12_oddsOf_l22, fX12_oddsOf_b22]
    rw [if_pos (show (7 : Int32) ≤ nI 7 by decide), tf_q h hWx hs]
    simp only [bd_u, nm_u, cl_0, cl_2, fx.i (f := 1201) rfl]
    rw [o77]
    have fin : ∀ y : Int32, y = kF C M s nL 0 → Rt (fX12_oddsOf_l77 (nI s) u FU (0 : Int32) (msI (msI x 8200 0 0 y) 8200 0 2 (3 : Int32))) P := fun y hy =>
      o77_q h hW hs u P _ ((i1.I rfl).I rfl) (by simp only [uI_I, uL_L, uR_R, uI_L, uI_R, uL_I, uL_R, uR_I, uR_L, Nat.reduceEqDiff, false_and, and_false, true_and, and_true, ↓reduceIte]; exact hy) (by simp only [uI_I, uL_L, uR_R, uI_L, uI_R, uL_I, uL_R, uR_I, uR_L, Nat.reduceEqDiff, false_and, and_false, true_and, and_true, ↓reduceIte]; exact i2 1 (by omega)) (by simp only [uI_I, uL_L, uR_R, uI_L, uI_R, uL_I, uL_R, uR_I, uR_L, Nat.reduceEqDiff, false_and, and_false, true_and, and_true, ↓reduceIte]) (by simp only [uI_I, uL_L, uR_R, uI_L, uI_R, uL_I, uL_R, uR_I, uR_L, Nat.reduceEqDiff, false_and, and_false, true_and, and_true, ↓reduceIte]; exact i2 3 (by omega)) (by simp only [uI_I, uL_L, uR_R, uI_L, uI_R, uL_I, uL_R, uR_I, uR_L, Nat.reduceEqDiff, false_and, and_false, true_and, and_true, ↓reduceIte]; exact i2 4 (by omega)) kk
    by_cases e : 0 ≤ tfS (hB (bl C s)) (mgI M 5400 0) s
    · rw [if_pos e]
      exact fin _ (show _ = if tfS (hB (bl C s)) (mgI M 5400 0) s < 0 then 0 else mgI M 1201 0 0 - tfS (hB (bl C s)) (mgI M 5400 0) s by rw [if_neg (Int32.not_lt.mpr e)])
    · rw [if_neg e]
      exact fin _ (show _ = if tfS (hB (bl C s)) (mgI M 5400 0) s < 0 then 0 else mgI M 1201 0 0 - tfS (hB (bl C s)) (mgI M 5400 0) s by rw [if_pos (Int32.not_le.mp e)])
  · simp only [fX12_oddsOf_l22, fX12_oddsOf_b22]
    rw [if_neg (show ¬ (7 : Int32) ≤ nI i from nI_ge (b := 7) hi (by decide))]
    simp only [nm_u, ix_n hi (show 7 < 2 ^ 31 by omega), nI_clamp (show i < 2 ^ 31 by omega), nI_1]
    refine k _ ⟨hI.1.I rfl, fun j hj => ?_⟩
    simp only [uI_I, uL_L, uR_R, uI_L, uI_R, uL_I, uL_R, uR_I, uR_L, Nat.reduceEqDiff, false_and, and_false, true_and, and_true, ↓reduceIte]
    by_cases e : j = i
    · rw [if_pos e]
    · rw [if_neg e]; exact hI.2 j (by omega)
/-- the odds of a HELD one: both sides -/
theorem odds_q {C M C1 M1 : Mem} {nS nL : Nat} (h : Sim C M nS nL) (fC : FrC C C1) (hW : StW C M M1 nS) {s u : Nat} (hs : s < nS) (hu : u < 2) : ∃ v C2 M2, fX3_oddsOf (some s) (nI u) C1 = some (v, C2) ∧ fX12_oddsOf (nI s) (nI u) M1 = some (v, M2) ∧ EqOff [307, 3000, 3100] C1 C2 ∧ EqOff [8200, 8300] M1 M2 := by
  obtain ⟨hx1, hx2⟩ := sm_x1 h u hu
  have hcl : ∀ k, mgI C1 1001 u 0 = mgI C 1001 u 0 ∧ mgI C1 4400 u k = mgI C 4400 u k := fun k => ⟨(fC.2 u hu).1, (fC.2 u hu).2 k⟩
  have hlm := hW.1.2.1 u hu
  unfold fX12_oddsOf
  rw [ix_n (show u < 3 by omega) (by omega), nI_clamp (by omega), hlm]
  have hC : fX3_oddsOf (some s) (nI u) C1 = if mgI C 1001 u 0 = 0 then (if nI u = 0 then some ((100 : Int32), C1) else some ((0 : Int32), C1)) else bE (fX3_know (some s) C1) fun _ M4 => bE (fX3_workOut (some u) M4) fun b5 M6 => some (if (0 : Int32) < (if b5 < (1000 : Int32) then b5 else (1000 : Int32)) then (if b5 < (1000 : Int32) then b5 else (1000 : Int32)) else (0 : Int32), M6) := by
    unfold fX3_oddsOf
    have hu2 : u = 0 ∨ u = 1 := by omega
    rcases hu2 with rfl | rfl
    · rw [if_pos (show nI 0 = 0 from rfl), if_pos (show nI 0 = 0 from rfl), (hcl 0).1]
    · rw [if_neg (show ¬ nI 1 = 0 by decide), if_neg (show ¬ nI 1 = 0 by decide), (hcl 0).1]
  rw [hC]
  by_cases hz : mgI C 1001 u 0 = 0
  · rw [if_pos hz, if_pos (hx1.mp hz)]
    by_cases hu0 : nI u = 0
    · rw [if_pos hu0, if_pos hu0]; exact ⟨_, _, _, rfl, rfl, EqOff.refl, EqOff.refl⟩
    · rw [if_neg hu0, if_neg hu0]; exact ⟨_, _, _, rfl, rfl, EqOff.refl, EqOff.refl⟩
  · rw [if_neg hz, if_neg (fun z => hz (hx1.mpr z))]
    obtain ⟨C2, k1, k2, k3⟩ := know_q h fC hs
    rw [k1]
    simp only [bE_u]
    have f2 := fC.trans (fr30 k2)
    have H := o22_q h hW hs (nI u) (fun r => ∃ C3 v, fX3_workOut (some u) C2 = some (v, C3) ∧ EqOff [307, 3100] C2 C3 ∧ r.1 = (if (0 : Int32) < (if v < (1000 : Int32) then v else (1000 : Int32)) then (if v < (1000 : Int32) then v else (1000 : Int32)) else (0 : Int32)) ∧ EqOff [8200, 8300] M1 r.2) (fun M' e1 e2 => by
      have fm : FrM M M' := hW.1.trans (FrM.of (e1.wide (by decide)))
      obtain ⟨v, C3, M3, g1, g2, g3, g4⟩ := hx2 C2 M' (f2.2 u hu).1 (fun j => (f2.2 u hu).2 j) (fm.2.1 u hu) (fun j _ hj => fm.2.2.1 j (by omega)) (fun j _ hj => fm.2.2.2 j (by omega)) (fun k hk => by rw [k3 k hk, e2 k hk])
      unfold fiM
      rw [g2]
      simp only [bE_u]
      have eE : EqOff [8200, 8300] M1 M3 := EqOff.trans (e1.wide rfl) (g4.wide rfl)
      by_cases q1 : 0 ≤ v
      · rw [if_pos q1]
        by_cases q2 : v ≤ (1000 : Int32)
        · rw [if_pos q2]
          refine Rt_s ⟨C3, v, g1, g3, ?_, eE⟩
          by_cases q3 : v < (1000 : Int32)
          · rw [if_pos q3]
            by_cases q4 : 0 < v
            · rw [if_pos q4]
            · rw [if_neg q4]
              exact Int32.le_antisymm (Int32.not_lt.mp q4) q1
          · rw [if_neg q3, if_pos (by decide)]
            exact Int32.le_antisymm q2 (Int32.not_lt.mp q3)
        · rw [if_neg q2]
          refine Rt_s ⟨C3, v, g1, g3, ?_, eE⟩
          rw [if_neg (fun z => q2 (Int32.le_of_lt z)), if_pos (by decide)]
      · rw [if_neg q1]
        refine Rt_s ⟨C3, v, g1, g3, ?_, eE⟩
        have q5 : v < (1000 : Int32) := Int32.lt_of_lt_of_le (Int32.not_le.mp q1) (by decide)
        rw [if_pos q5, if_neg (fun z => q1 (Int32.le_of_lt z))])
    obtain ⟨r, e, C3, v, w1, w2, w3, w4⟩ := H
    rw [w1, e]
    simp only [bE_u]
    exact ⟨r.1, C3, r.2, by rw [w3], rfl, EqOff.trans (k2.wide rfl) (w2.wide rfl), w4⟩
theorem frO {C C' : Mem} (h : EqOff [307, 3000, 3100] C C') : FrC C C' := FrC.of (h.wide (by decide))
theorem frQ {C C' : Mem} (h : EqOff [8200, 8300] C C') : FrM C C' := FrM.of (h.wide (by decide))
theorem qs_odds {C M : Mem} {nS nL : Nat} (h : Sim C M nS nL) (a1 a2 : Int32) : QA nS nL (fX11_odds a1 a2 C) (fX12_odds a1 a2 M) := by
  unfold fX11_odds fX12_odds
  rcases st_c h a1 with ⟨s, hs, hb, rfl, e1, e2⟩ | ⟨e1, e2⟩
  · rw [e1, e2]
    simp only [nm_u, bd_u, oc_SU, ix_n (show s < 64 by omega) (show 64 < 2 ^ 31 by omega), nI_clamp (show s < 2 ^ 31 by omega)]
    rw [if_neg one_ne, sm_sK h s hs]
    by_cases hk : mgI M 5000 0 s = 5
    · rw [if_pos hk, if_pos hk]
      rcases rg_c a2 0 1 (by decide) (by decide) with ⟨h1, h2⟩ | ⟨h1, h2⟩ | ⟨u, -, hu, rfl⟩
      · rw [if_pos (show a2 < 0 from h1), in_lo (show a2 < 0 from h1)]
        exact QA_same h rfl rfl
      · rw [in_hi (show (1 : Int32) < a2 from h1)]
        by_cases h3 : a2 < 0
        · rw [if_pos h3]; exact QA_same h rfl rfl
        · rw [if_neg h3, if_neg (show ¬ a2 ≤ 1 from h2)]; exact QA_same h rfl rfl
      · rw [show fX12_in (nI u) 0 1 = 1 from in_ok (lo := 0) (hi := 1) (Nat.zero_le _) hu (by decide), if_neg one_ne, if_neg (nI_pos (by omega)), if_pos (show nI u ≤ 1 from nI_le (b := 1) hu (by decide))]
        obtain ⟨M1, m1, m2⟩ := fs_q h
        rw [m1]
        simp only [bE_u]
        obtain ⟨v, C2, M2, w1, w2, w3, w4⟩ := odds_q h FrC.refl m2.w hs (show u < 2 by omega)
        rw [w1, w2]
        exact QA_fr h rfl rfl (frO w3) ((frS m2).trans (frQ w4))
    · rw [if_neg hk, if_neg hk]
      exact QA_same h rfl rfl
  · rw [e1, e2]
    exact QA_same h rfl rfl
