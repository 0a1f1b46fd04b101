def mnS (p : Nat → Bool) (tk : Nat → Int32) (nw : Int32) : Nat → Int32
  | 0 => nw
  | o + 1 => if p o = true ∧ ¬ tk o < 0 then (if tk o < mnS p tk nw o then tk o else mnS p tk nw o) else mnS p tk nw o
theorem mnS_y {p : Nat → Bool} {tk : Nat → Int32} {nw : Int32} {o : Nat} (h : p o = true ∧ ¬ tk o < 0) : mnS p tk nw (o + 1) = if tk o < mnS p tk nw o then tk o else mnS p tk nw o := if_pos h
theorem mnS_n {p : Nat → Bool} {tk : Nat → Int32} {nw : Int32} {o : Nat} (h : ¬ (p o = true ∧ ¬ tk o < 0)) : mnS p tk nw (o + 1) = mnS p tk nw o := if_neg h
theorem mn_tf {p : Nat → Bool} {tk : Nat → Int32} {nw : Int32} : ∀ N, (∀ o, o < N → tk o ≤ nw) → mnS p tk nw N = if tfS p tk N < 0 then nw else tfS p tk N
  | 0, _ => by
    show nw = if (-1 : Int32) < 0 then nw else -1
    rw [if_pos (by decide)]
  | N + 1, h => by
    have ih := mn_tf N (fun o ho => h o (Nat.lt_succ_of_lt ho)) (p := p)
    have hN := h N (Nat.lt_succ_self N)
    by_cases hc : p N = true ∧ ¬ tk N < 0
    · rw [mnS_y hc, ih]
      by_cases h1 : tfS p tk N < 0
      · rw [if_pos h1, tfS_y ⟨hc.1, hc.2, Or.inl h1⟩, if_neg hc.2]
        by_cases h2 : tk N < nw
        · rw [if_pos h2]
        · rw [if_neg h2]
          exact Int32.le_antisymm (Int32.not_lt.mp h2) hN
      · rw [if_neg h1]
        by_cases h2 : tk N < tfS p tk N
        · rw [if_pos h2, tfS_y ⟨hc.1, hc.2, Or.inr h2⟩, if_neg hc.2]
        · rw [if_neg h2, tfS_n (fun z => by
            rcases z.2.2 with z | z
            · exact h1 z
            · exact h2 z), if_neg h1]
    · rw [mnS_n hc, ih, tfS_n (fun z => hc ⟨z.1, z.2.1⟩)]
/-- the months that a ruled one has gone amiss -/
theorem ma_C {C M : Mem} {nS nL : Nat} (h : Sim C M nS nL) {C' : Mem} (fC : FrC C C') {s : Nat} (hs : s < nS) : fX9_monthsAmiss (some s) C' = some (mgI M 1201 0 0 - (if mnS (hB (bl C s)) (mgI M 5400 0) (mgI M 1201 0 0) s < mgI M 5100 0 s then mgI M 5100 0 s else mnS (hB (bl C s)) (mgI M 5400 0) (mgI M 1201 0 0) s)) := by
  have hb : nS ≤ 64 ∧ nL ≤ 200 := sm_b1 h
  unfold fX9_monthsAmiss
  simp only [nm_u]
  rw [fC.i (f := 504) rfl, sm_n2 h]
  refine lpT (fun n i (x : Int32) => fX9_monthsAmiss_l10 (some s) C' n x (nI i)) s (fun i => mnS (hB (bl C s)) (mgI M 5400 0) (mgI M 1201 0 0) i) _ (fun n => ?_) (fun n i hi => ?_) FU 0 (Nat.zero_le _) (FU_lt (by omega))
  · simp only [fX9_monthsAmiss_l10, fX9_monthsAmiss_b10, oc_SU]
    rw [fC.i (f := 800) rfl, sm_s0 h s hs, if_pos (nI_le (Nat.le_refl _) (by omega)), fC.i (f := 504) rfl, fC.i (f := 802) rfl, sm_n2 h, sm_sM h s hs]
  · simp only [fX9_monthsAmiss_l10, fX9_monthsAmiss_b10, oc_SU]
    rw [fC.i (f := 800) rfl, sm_s0 h s hs, if_neg (nI_ge hi (by omega)), fC.l (f := 815) rfl, fC.l (f := 505) rfl, fC.r (f := 3200) rfl, fC.i (f := 807) rfl, show mgL C 815 s 0 = bl C s from rfl]
    simp only [nm_u, ix_n (show i < 64 by omega) (show 64 < 2 ^ 31 by omega), nI_clamp (show i < 2 ^ 31 by omega), sm_r1 h i (show i < nS by omega), oc_SU, sm_sI h i (show i < nS by omega), nI_1]
    have hin : hB (bl C s &&& mgL C 505 0 0) i = true ↔ hB (bl C s) i = true ∧ ¬ mgI M 5400 0 i < 0 := by
      rw [hB_and, sm_tB h i (by omega)]
      simp [show i < nS by omega]
    by_cases hc : hB (bl C s) i = true ∧ ¬ mgI M 5400 0 i < 0
    · rw [if_neg (fun z => by rw [isIn_0 _ (by omega)] at z; rw [hin.mpr hc] at z; cases z), mnS_y hc]
    · rw [if_pos ((isIn_0 _ (by omega)).mpr (by
        cases hq : hB (bl C s &&& mgL C 505 0 0) i
        · rfl
        · exact absurd (hin.mp hq) hc)), mnS_n hc]
def smU (g : Nat → Int32) : Nat → Int32
  | 0 => 0
  | n + 1 => smU g n + g n
theorem smU_cong {g g' : Nat → Int32} : ∀ {N : Nat}, (∀ k, k < N → g k = g' k) → smU g N = smU g' N
  | 0, _ => rfl
  | N + 1, h => by
    show smU g N + g N = smU g' N + g' N
    rw [smU_cong (fun k hk => h k (Nat.lt_succ_of_lt hk)), h N (Nat.lt_succ_self N)]
/-- what a ruled one costs, if it counts -/
def coS (C M : Mem) (s : Nat) : Int32 := (mgI M 1201 0 0 - (if mnS (hB (bl C s)) (mgI M 5400 0) (mgI M 1201 0 0) s < mgI M 5100 0 s then mgI M 5100 0 s else mnS (hB (bl C s)) (mgI M 5400 0) (mgI M 1201 0 0) s)) * (mgI M 5300 0 s - mgI M 5300 0 s / (100 : Int32) * (100 : Int32))
theorem tk_nw {C M : Mem} {nS nL : Nat} (h : Sim C M nS nL) {o : Nat} (ho : o < nS) : mgI M 5400 0 o ≤ mgI M 1201 0 0 := by
  obtain ⟨w, hw, n0, n1, n2⟩ := nwL h
  rw [n0]
  rcases sm_vT h o ho with ⟨e, -⟩ | ⟨m, v, hm, e, -⟩
  · rw [e]
    exact Int32.le_of_lt (Int32.lt_of_lt_of_le (by decide) (nI_pos' (by omega)))
  · rw [e]
    rw [n2] at hm
    exact nI_le hm (by omega)
theorem co_0 {C M : Mem} {nS nL : Nat} (h : Sim C M nS nL) {s : Nat} (hs : s < nS) (hz : tfS (hB (bl C s)) (mgI M 5400 0) s < 0) : coS C M s = 0 := by
  unfold coS
  rw [mn_tf s (fun o ho => tk_nw h (by omega)), if_pos hz]
  obtain ⟨w, hw, n0, n1, n2⟩ := nwL h
  obtain ⟨m, hm, em⟩ := sm_vM h s hs
  rw [n2] at hm
  rw [if_neg (by rw [n0, em]; exact nI_nlt hm (by omega)), Int32.sub_self, Int32.zero_mul]
set_option maxHeartbeats 4000000 in
theorem qs_land {C M : Mem} {nS nL : Nat} (h : Sim C M nS nL) (a1 : Int32) : QA nS nL (fX11_land a1 C) (fX12_land a1 M) := by
  have hbb : nS ≤ 64 ∧ nL ≤ 200 := sm_b1 h
  unfold fX11_land fX12_land
  simp only [nm_u]
  rcases rg_c a1 0 7 (by decide) (by decide) with ⟨h1, h2⟩ | ⟨h1, h2⟩ | ⟨w, -, hw, rfl⟩
  · rw [if_pos (show a1 < 0 from h1), in_lo (show a1 < 0 from h1)]
    exact QA_same h rfl rfl
  · rw [if_neg (show ¬ a1 ≤ 7 from h2), ite_self, in_hi (show (7 : Int32) < a1 from h1)]
    exact QA_same h rfl rfl
  rw [show fX12_in (nI w) 0 7 = 1 from in_ok (lo := 0) (hi := 7) (Nat.zero_le _) hw (by decide), if_neg one_ne, if_neg (nI_pos (by omega)), if_pos (show nI w ≤ 7 from nI_le hw (by decide))]
  obtain ⟨M4, s1, s2⟩ := fs_q h
  rw [s1]
  simp only [bE_u]
  have h4 : Sim C M4 nS nL := h.fr FrC.refl (frS s2)
  have f4 := frS s2
  generalize hli : (fun n => decide (mgI M 5000 0 n = 1 ∧ ¬ mgI M 5400 0 n < 0)) = li
  have hlin : ∀ n, (li n = true ↔ mgI M 5000 0 n = 1 ∧ ¬ mgI M 5400 0 n < 0) := fun n => by rw [← hli]; simp
  -- the component gathers the lies
  have hC1 : fX9_costOf (nI w) C = fX9_costOf_l5 C (nI w) 1 (orU li nS) (nI nS) := by
    unfold fX9_costOf
    have := lpT (fun n i (x : Int64) => fX9_costOf_l5 C (nI w) n x (nI i)) nS (fun i => orU li i) (fX9_costOf_l5 C (nI w) 1 (orU li nS) (nI nS)) (fun n => ?_) (fun n i hi => ?_) FU 0 (Nat.zero_le _) (FU_lt (by omega))
    · exact this
    · simp only [fX9_costOf_l5, fX9_costOf_b5]
      rw [(sm_c1 h).1, if_pos (nI_le (Nat.le_refl _) (by omega)), if_pos (nI_le (Nat.le_refl _) (by omega))]
    · simp only [fX9_costOf_l5, fX9_costOf_b5]
      rw [(sm_c1 h).1, if_neg (nI_ge hi (by omega))]
      simp only [nm_u, ix_n (show i < 64 by omega) (show 64 < 2 ^ 31 by omega), nI_clamp (show i < 2 ^ 31 by omega), sm_r1 h i hi, oc_SU, sm_sK h i hi, sm_sI h i hi, nI_1]
      by_cases e1 : mgI M 5000 0 i = 1
      · rw [if_pos e1]
        by_cases e2 : mgI M 5400 0 i < 0
        · rw [if_pos e2, orU_n (fun z => ((hlin i).mp z).2 e2)]
        · rw [if_neg e2, orU_y ((hlin i).mpr ⟨e1, e2⟩)]
      · rw [if_neg e1, orU_n (fun z => e1 ((hlin i).mp z).1)]
  -- and the reference
  have hm4 : mgI M4 1202 0 0 = nI nS := (sm_c2 h4).1
  have hM1 : fX12_land_l21 M4 (nI w) FU (0 : Int64) (0 : Int32) = fX12_land_l21 M4 (nI w) 1 (orU li nS) (nI nS) := by
    have := lpT (fun n i (x : Int64) => fX12_land_l21 M4 (nI w) n x (nI i)) nS (fun i => orU li i) (fX12_land_l21 M4 (nI w) 1 (orU li nS) (nI nS)) (fun n => ?_) (fun n i hi => ?_) FU 0 (Nat.zero_le _) (FU_lt (by omega))
    · exact this
    · simp only [fX12_land_l21, fX12_land_b21]
      rw [hm4, if_pos (nI_le (Nat.le_refl _) (by omega)), if_pos (nI_le (Nat.le_refl _) (by omega))]
    · simp only [fX12_land_l21, fX12_land_b21]
      rw [hm4, if_neg (nI_ge hi (by omega))]
      simp only [nm_u, ix_n (show i < 64 by omega) (show 64 < 2 ^ 31 by omega), nI_clamp (show i < 2 ^ 31 by omega), f4.i (f := 5000) rfl, f4.i (f := 5400) rfl, nI_1, sft_q]
      by_cases e1 : mgI M 5000 0 i = 1
      · rw [if_pos e1]
        by_cases e2 : mgI M 5400 0 i < 0
        · rw [if_pos e2, orU_n (fun z => ((hlin i).mp z).2 e2)]
        · rw [if_neg e2, orU_y ((hlin i).mpr ⟨e1, e2⟩)]
      · rw [if_neg e1, orU_n (fun z => e1 ((hlin i).mp z).1)]
  rw [hC1, hM1]
  generalize orU li nS = lies
  simp only [fX9_costOf_l5, fX9_costOf_b5, fX12_land_l21, fX12_land_b21]
  rw [(sm_c1 h).1, hm4, if_pos (nI_le (Nat.le_refl _) (by omega)), if_pos (nI_le (Nat.le_refl _) (by omega))]
  obtain ⟨C6, M10, w1, w2, w3, w4, w5, w6⟩ := wa_q h4 0 0
  have f10 : FrM M M10 := f4.trans (frF w4)
  have y10 : ∀ cn wo n, ysB M4 cn wo n = ysB M cn wo n := fun cn wo n => by unfold ysB; rw [f4.i (f := 5200) rfl]
  have ye4 : ∀ cn wo, yeS M4 cn wo = yeS M cn wo := fun cn wo => funext fun n => by unfold yeS; rw [y10, f4.i (f := 5000) rfl]
  have hm10 : mgI M10 1202 0 0 = nI nS := by rw [f10.i (f := 1202) rfl]; exact (sm_c2 h).1
  generalize hq : ysB M (cM M10) (oM M10) = q
  generalize hM13 : wsT q M10 nS = M13
  have e13 : EqOff [7400] M10 M13 := by rw [← hM13]; exact wsT_E q M10 nS
  have v13 : ∀ t, t < nS → mgI M13 7400 0 t = q t := fun t ht => by rw [← hM13]; exact wsT_v q M10 nS t ht
  have h13 : Sim C6 M13 nS nL := (h4.fr (frW w3) (frF w4)).fr FrC.refl (fr74 e13)
  have f13 : FrM M M13 := f10.trans (fr74 e13)
  obtain ⟨C9, M16, x1, x2, x3, x4, x5, x6⟩ := wa_q h13 lies 0
  have f16 : FrM M M16 := f13.trans (frF x4)
  have fC9 : FrC C C9 := (frW w3).trans (frW x3)
  have y13 : ∀ n, ysB M13 (cM M16) (oM M16) n = ysB M (cM M16) (oM M16) n := fun n => by unfold ysB; rw [f13.i (f := 5200) rfl]
  have ye13 : yeS M13 (cM M16) (oM M16) = yeS M (cM M16) (oM M16) := funext fun n => by unfold yeS; rw [y13, f13.i (f := 5000) rfl]
  rw [w1, w2]
  simp only [bE_u]
  rw [sy_C h4 w5 w3 w6, ye4]
  simp only [bd_u]
  rw [x1]
  simp only [bE_u]
  rw [sy_C h13 x5 x3 x6, ye13]
  simp only [bd_u, nm_u]
  have hl : fX12_land_l73 lies (nI w) FU (0 : Int32) M10 = fX12_land_l73 lies (nI w) 1 (nI nS) M13 := by
    have := lpT (fun n i (x : Mem) => fX12_land_l73 lies (nI w) n (nI i) x) nS (wsT q M10) (fX12_land_l73 lies (nI w) 1 (nI nS) M13) (fun n => ?_) (fun n i hi => ?_) FU 0 (Nat.zero_le _) (FU_lt (by omega))
    · exact this
    · rw [hM13]
      simp only [fX12_land_l73, fX12_land_b73]
      rw [(e13.on (K := [1202]) rfl 1202 (by decide)).1, hm10, if_pos (nI_le (Nat.le_refl _) (by omega)), if_pos (nI_le (Nat.le_refl _) (by omega))]
    · have g := (wsT_E q M10 i).on (K := [1202, 6700, 6800, 6900, 5200]) rfl
      simp only [fX12_land_l73, fX12_land_b73]
      rw [(g 1202 (by decide)).1, hm10, if_neg (nI_ge hi (by omega))]
      have hy : fX12_isYes (nI i) (wsT q M10 i) = some (q i) := by
        have := ys_M h4 w4 w5 hi
        unfold fX12_isYes at this ⊢
        rw [(g 6700 (by decide)).1, (g 6800 (by decide)).1, (g 6900 (by decide)).1, (g 5200 (by decide)).1, this, y10, hq]
      rw [hy]
      simp only [bd_u, nm_u, ix_n (show i < 64 by omega) (show 64 < 2 ^ 31 by omega), nI_clamp (show i < 2 ^ 31 by omega), nI_1]
      show _ = fX12_land_l73 lies (nI w) n (nI (i + 1)) (msI (wsT q M10 i) 7400 0 i (q i))
      have hqi : q i = 0 ∨ q i = 1 := by rw [← hq]; exact ys_01 M _ _ i
      rcases hqi with hqi | hqi
      · rw [hqi, nar0]
      · rw [hqi, nar1]
  rw [hl]
  simp only [fX12_land_l73, fX12_land_b73]
  rw [(e13.on (K := [1202]) rfl 1202 (by decide)).1, hm10, if_pos (nI_le (Nat.le_refl _) (by omega)), x2]
  simp only [bE_u]
  have hm16 : mgI M16 1202 0 0 = nI nS := by rw [f16.i (f := 1202) rfl]; exact (sm_c2 h).1
  have hS16 : StW C M M16 nS := ((s2.w.on w4 (frF w4) rfl).on e13 (fr74 e13) rfl).on x4 (frF x4) rfl
  have hy16 : ∀ n, n < nS → fX12_isYes (nI n) M16 = some (ysB M (cM M16) (oM M16) n) := fun n hn => by rw [ys_M h13 x4 x5 hn, y13]
  have v16 : ∀ t, t < nS → mgI M16 7400 0 t = q t := fun t ht => by rw [(x4.on (K := [7400]) rfl 7400 (by decide)).1]; exact v13 t ht
  generalize hg : (fun n => if mgI M 5000 0 n = 3 ∧ mgI M 5300 0 n / (100 : Int32) = nI w ∧ ¬ q n = ysB M (cM M16) (oM M16) n then coS C M n else 0) = g
  have gy : ∀ n, (mgI M 5000 0 n = 3 ∧ mgI M 5300 0 n / (100 : Int32) = nI w ∧ ¬ q n = ysB M (cM M16) (oM M16) n) → g n = coS C M n := fun n hn => by rw [← hg]; exact if_pos hn
  have gn : ∀ n, ¬ (mgI M 5000 0 n = 3 ∧ mgI M 5300 0 n / (100 : Int32) = nI w ∧ ¬ q n = ysB M (cM M16) (oM M16) n) → g n = 0 := fun n hn => by rw [← hg]; exact if_neg hn
  generalize hv : orU (yeS M (cM M10) (oM M10)) nS ^^^ orU (yeS M (cM M16) (oM M16)) nS = v
  have hvn : ∀ n, n < nS → (hB v n = true ↔ mgI M 5000 0 n = 3 ∧ ¬ q n = ysB M (cM M16) (oM M16) n) := fun n hn => by
    rw [← hv, hB_xor, hB_orU hbb.1, hB_orU hbb.1, decide_eq_true hn, Bool.true_and, Bool.true_and, ← hq]
    show ((decide (mgI M 5000 0 n = 3 ∧ ysB M (cM M10) (oM M10) n = 1)) ^^ (decide (mgI M 5000 0 n = 3 ∧ ysB M (cM M16) (oM M16) n = 1))) = true ↔ _
    by_cases z : mgI M 5000 0 n = 3
    · rcases ys_01 M (cM M10) (oM M10) n with a | a <;> rcases ys_01 M (cM M16) (oM M16) n with b | b <;> rw [a, b] <;> simp [z]
    · simp [z]
  have hc9 : mgI C9 502 0 0 = nI nS := by rw [fC9.i (f := 502) rfl]; exact (sm_c1 h).1
  have hCf : fX9_costOf_l103 C9 v (nI w) FU (0 : Int32) (0 : Int32) = some (smU g nS, C9) := by
    refine lpT (fun n i (x : Int32) => fX9_costOf_l103 C9 v (nI w) n x (nI i)) nS (fun i => smU g i) _ (fun n => ?_) (fun n i hi => ?_) FU 0 (Nat.zero_le _) (FU_lt (by omega))
    · simp only [fX9_costOf_l103, fX9_costOf_b103]
      rw [hc9, if_pos (nI_le (Nat.le_refl _) (by omega))]
    · simp only [fX9_costOf_l103, fX9_costOf_b103]
      rw [hc9, if_neg (nI_ge hi (by omega))]
      simp only [nm_u, ix_n (show i < 64 by omega) (show 64 < 2 ^ 31 by omega), nI_clamp (show i < 2 ^ 31 by omega), nI_1, fC9.r (f := 3200) rfl, sm_r1 h i hi, oc_SU, fC9.i (f := 804) rfl, sm_sB h i hi, ma_C h fC9 hi, bd_u]
      show _ = fX9_costOf_l103 C9 v (nI w) n (smU g i + g i) (nI (i + 1))
      by_cases e1 : hB v i = true
      · rw [if_neg (fun z => by rw [isIn_0 _ (by omega)] at z; rw [e1] at z; cases z)]
        have e2 := (hvn i hi).mp e1
        by_cases e3 : mgI M 5300 0 i / (100 : Int32) = nI w
        · rw [if_pos e3, gy i ⟨e2.1, e3, e2.2⟩]
          rfl
        · rw [if_neg e3, gn i (fun z => e3 z.2.1), Int32.add_zero]
      · rw [if_pos ((isIn_0 _ (by omega)).mpr (by simpa using e1)), gn i (fun z => e1 ((hvn i hi).mpr ⟨z.1, z.2.2⟩)), Int32.add_zero]
  have hMf : fX12_land_l113 M16 (nI w) FU (0 : Int32) (0 : Int32) = some (smU g nS, M16) := by
    refine lpT (fun n i (x : Int32) => fX12_land_l113 M16 (nI w) n x (nI i)) nS (fun i => smU g i) _ (fun n => ?_) (fun n i hi => ?_) FU 0 (Nat.zero_le _) (FU_lt (by omega))
    · simp only [fX12_land_l113, fX12_land_b113]
      rw [hm16, if_pos (nI_le (Nat.le_refl _) (by omega))]
    · simp only [fX12_land_l113, fX12_land_b113]
      rw [hm16, if_neg (nI_ge hi (by omega))]
      simp only [nm_u, ix_n (show i < 64 by omega) (show 64 < 2 ^ 31 by omega), nI_clamp (show i < 2 ^ 31 by omega), nI_1, f16.i (f := 5000) rfl, f16.i (f := 5300) rfl, f16.i (f := 5100) rfl, f16.i (f := 1201) rfl, tf_q h hS16 hi, hy16 i hi, v16 i hi, bd_u]
      show _ = fX12_land_l113 M16 (nI w) n (smU g i + g i) (nI (i + 1))
      by_cases e1 : mgI M 5000 0 i = 3
      · rw [if_pos e1]
        by_cases e3 : mgI M 5300 0 i / (100 : Int32) = nI w
        · rw [if_pos e3]
          by_cases e4 : tfS (hB (bl C i)) (mgI M 5400 0) i < 0
          · rw [if_pos e4]
            by_cases e5 : q i = ysB M (cM M16) (oM M16) i
            · rw [gn i (fun z => z.2.2 e5), Int32.add_zero]
            · rw [gy i ⟨e1, e3, e5⟩, co_0 h hi e4, Int32.add_zero]
          · rw [if_neg e4]
            by_cases e5 : q i = ysB M (cM M16) (oM M16) i
            · rw [if_pos e5, gn i (fun z => z.2.2 e5), Int32.add_zero]
            · rw [if_neg e5, gy i ⟨e1, e3, e5⟩]
              have hmn := mn_tf (p := hB (bl C i)) (tk := mgI M 5400 0) (nw := mgI M 1201 0 0) i (fun o ho => tk_nw h (by omega))
              rw [if_neg e4] at hmn
              unfold coS
              rw [hmn]
              by_cases e6 : tfS (hB (bl C i)) (mgI M 5400 0) i ≤ mgI M 5100 0 i
              · rw [if_pos e6]
                by_cases e7 : tfS (hB (bl C i)) (mgI M 5400 0) i < mgI M 5100 0 i
                · rw [if_pos e7]
                · rw [if_neg e7, Int32.le_antisymm e6 (Int32.not_lt.mp e7)]
              · rw [if_neg e6, if_neg (fun z => e6 (Int32.le_of_lt z))]
        · rw [if_neg e3, gn i (fun z => e3 z.2.1), Int32.add_zero]
      · rw [if_neg e1, gn i (fun z => e1 z.1), Int32.add_zero]
  rw [hCf, hMf]
  exact QA_fr h rfl rfl fC9 f16
