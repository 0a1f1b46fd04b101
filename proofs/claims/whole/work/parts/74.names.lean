theorem fa_or (a b : Nat) : nI a ||| nI b = nI (a ||| b) := by
  apply Int32.toBitVec_inj.1
  show BitVec.ofNat 32 a ||| BitVec.ofNat 32 b = BitVec.ofNat 32 (a ||| b)
  apply BitVec.eq_of_getLsbD_eq
  intro i hi
  simp [hi]
theorem na_c (x : Int32) : (∃ n, n < 20 ∧ x = nI n ∧ fX11_isName x = 1 ∧ fX12_in x 0 19 = 1) ∨ (fX11_isName x = 0 ∧ fX12_in x 0 19 = 0) := by
  unfold fX11_isName
  rcases rg_c x 0 19 (by decide) (by decide) with ⟨h1, h2⟩ | ⟨h1, h2⟩ | ⟨n, -, hn, rfl⟩
  · exact Or.inr ⟨by rw [if_pos (show x < 0 from h1)], in_lo h1⟩
  · exact Or.inr ⟨by rw [if_pos (show (20 : Int32) ≤ x from nI_aft (n := 19) (by decide) h1), ite_self], in_hi h1⟩
  · exact Or.inl ⟨n, by omega, rfl, by rw [if_neg (nI_pos (by omega)), if_neg (show ¬ (20 : Int32) ≤ nI n from nI_ge (b := 20) (by omega) (by decide))], in_ok (lo := 0) (hi := 19) (Nat.zero_le _) hn (by decide)⟩
theorem shx {s k : Nat} (hs : s < 64) (hk : k < 20) : (20 : Int32) * nI s + nI k = nI (20 * s + k) ∧ 20 * s + k < 1280 := ⟨by rw [show (20 : Int32) = nI 20 from rfl, pk_mul, nI_add], by omega⟩
/-- the part of a name of a stone -/
def shS (M : Mem) (s n : Nat) : Int32 := if smU (fun k => mgI M 8700 0 (20 * s + k)) 20 = 0 then 0 else ((1000 : Int32) * mgI M 8700 0 (20 * s + n)) / smU (fun k => mgI M 8700 0 (20 * s + k)) 20
theorem sh_M {M : Mem} {s n : Nat} (hs : s < 64) (hn : n < 20) : fX12_shareOf (nI s) (nI n) M = some (shS M s n) := by
  unfold fX12_shareOf shS
  refine lpT (fun m i (x : Int32) => fX12_shareOf_l5 (nI s) (nI n) M m x (nI i)) 20 (fun i => smU (fun k => mgI M 8700 0 (20 * s + k)) i) _ (fun m => ?_) (fun m i hi => ?_) FU 0 (Nat.zero_le _) (FU_lt (by omega))
  · simp only [fX12_shareOf_l5, fX12_shareOf_b5]
    rw [if_pos (show (20 : Int32) ≤ nI 20 by decide), (shx hs hn).1, ix_n (shx hs hn).2 (by omega), nI_clamp (by have := (shx hs hn).2; omega)]
    by_cases e : smU (fun k => mgI M 8700 0 (20 * s + k)) 20 = 0
    · rw [if_pos e, if_pos e]
    · rw [if_neg e, if_neg e]
      unfold nzI
      rw [if_neg e]
  · simp only [fX12_shareOf_l5, fX12_shareOf_b5]
    have := (shx hs hi).2
    rw [if_neg (show ¬ (20 : Int32) ≤ nI i from nI_ge (b := 20) hi (by decide)), (shx hs hi).1, ix_n this (by omega), nI_clamp (by omega)]
    simp only [nm_u, nI_1]
    rfl
theorem sh_C {C M : Mem} {nS nL : Nat} (h : Sim C M nS nL) {s n : Nat} (hs : s < nS) (hn : n < 20) : fX8_partOf s (nI n) C = some (shS M s n) := by
  unfold fX8_partOf shS
  refine lpT (fun m i (x : Int32) => fX8_partOf_l4 (nI n) C s m x (nI i)) 20 (fun i => smU (fun k => mgI M 8700 0 (20 * s + k)) i) _ (fun m => ?_) (fun m i hi => ?_) FU 0 (Nat.zero_le _) (FU_lt (by omega))
  · simp only [fX8_partOf_l4, fX8_partOf_b4]
    rw [if_pos (show (20 : Int32) ≤ nI 20 by decide), ix_n hn (by omega), nI_clamp (by omega), sm_e1 h s n hs hn]
    by_cases e : smU (fun k => mgI M 8700 0 (20 * s + k)) 20 = 0
    · rw [if_pos e, if_pos e]
    · rw [if_neg e, if_neg e, Int32.mul_comm]
      unfold nzI
      rw [if_neg e]
  · simp only [fX8_partOf_l4, fX8_partOf_b4]
    rw [if_neg (show ¬ (20 : Int32) ≤ nI i from nI_ge (b := 20) hi (by decide)), ix_n hi (by omega), nI_clamp (by omega), sm_e1 h s i hs hi]
    simp only [nm_u, nI_1]
    rfl
theorem qs_share {C M : Mem} {nS nL : Nat} (h : Sim C M nS nL) (a1 a2 : Int32) : QP (fX11_share a1 a2 C) (fX12_share a1 a2 M) := by
  unfold fX11_share fX12_share QP
  rcases st_c h a1 with ⟨s, hs, hb, rfl, e1, e2⟩ | ⟨e1, e2⟩
  · rw [e1, e2]
    simp only [nm_u, bd_u, oc_SU]
    rw [if_neg one_ne]
    rcases na_c a2 with ⟨n, hn, rfl, f1, f2⟩ | ⟨f1, f2⟩
    · rw [f1, f2, if_neg one_ne, if_neg one_ne, (shx (show s < 64 by omega) hn).1, ix_n hn (by omega), ix_n (shx (show s < 64 by omega) hn).2 (by omega), nI_clamp (by omega), nI_clamp (by have := (shx (show s < 64 by omega) hn).2; omega), sm_e1 h s n hs hn, sh_C h hs hn, sh_M (show s < 64 by omega) hn]
      simp only [bd_u]
      obtain ⟨v, hv, ev⟩ := sm_e2 h s n hs hn
      rw [ev]
      rcases Nat.eq_zero_or_pos v with h0 | h0
      · subst h0
        rw [if_pos (show nI 0 = 0 from rfl), if_pos (show nI 0 ≤ 0 by decide)]
        exact ⟨_, rfl, rfl⟩
      · rw [if_neg (nI_ne0 h0 (by omega)), if_neg (nI_nle h0 (by omega))]
        exact ⟨_, rfl, rfl⟩
    · rw [f1, f2]
      exact ⟨_, rfl, rfl⟩
  · rw [e1, e2]
    exact ⟨-1, rfl, rfl⟩
theorem qs_fair {C M : Mem} {nS nL : Nat} (h : Sim C M nS nL) (a1 : Int32) : QP (fX11_fair a1 C) (fX12_fair a1 M) := by
  have hb : nS ≤ 64 ∧ nL ≤ 200 := sm_b1 h
  unfold fX11_fair fX12_fair QP
  simp only [nm_u]
  rcases na_c a1 with ⟨n, hn, rfl, f1, f2⟩ | ⟨f1, f2⟩
  · rw [f1, f2, if_neg one_ne, if_neg one_ne]
    refine ⟨smU (fun s => if mgI M 5400 0 s < 0 then 0 else shS M s n) nS, ?_, ?_⟩
    · refine lpT (fun m i (x : Int32) => fX11_fair_l13 C (nI n) m x (nI i)) nS (fun i => smU (fun s => if mgI M 5400 0 s < 0 then 0 else shS M s n) i) _ (fun m => ?_) (fun m i hi => ?_) FU 0 (Nat.zero_le _) (FU_lt (by omega))
      · simp only [fX11_fair_l13, fX11_fair_b13]
        rw [(sm_c1 h).1, if_pos (nI_le (Nat.le_refl _) (by omega))]
      · simp only [fX11_fair_l13, fX11_fair_b13]
        rw [(sm_c1 h).1, if_neg (nI_ge hi (by omega))]
        simp only [nm_u, ix_n (show i < 64 by omega) (show 64 < 2 ^ 31 by omega), nI_clamp (show i < 2 ^ 31 by omega), sm_r1 h i hi, oc_SU, sh_C h hi hn, bd_u, nI_1]
        show _ = fX11_fair_l13 C (nI n) m (smU (fun s => if mgI M 5400 0 s < 0 then 0 else shS M s n) i + (if mgI M 5400 0 i < 0 then 0 else shS M i n)) (nI (i + 1))
        by_cases e : mgI M 5400 0 i < 0
        · rw [if_pos e, Int32.add_zero, if_pos ((isIn_0 _ (by omega)).mpr (by rw [sm_tB h i (by omega)]; simp [e]))]
        · rw [if_neg e, if_neg (fun z => by rw [isIn_0 _ (by omega), sm_tB h i (by omega)] at z; simp [e, hi] at z)]
    · refine lpT (fun m i (x : Int32) => fX12_fair_l16 M (nI n) m x (nI i)) nS (fun i => smU (fun s => if mgI M 5400 0 s < 0 then 0 else shS M s n) i) _ (fun m => ?_) (fun m i hi => ?_) FU 0 (Nat.zero_le _) (FU_lt (by omega))
      · simp only [fX12_fair_l16, fX12_fair_b16]
        rw [(sm_c2 h).1, if_pos (nI_le (Nat.le_refl _) (by omega))]
      · simp only [fX12_fair_l16, fX12_fair_b16]
        rw [(sm_c2 h).1, if_neg (nI_ge hi (by omega))]
        simp only [nm_u, ix_n (show i < 64 by omega) (show 64 < 2 ^ 31 by omega), nI_clamp (show i < 2 ^ 31 by omega), sh_M (show i < 64 by omega) hn, bd_u, nI_1]
        show _ = fX12_fair_l16 M (nI n) m (smU (fun s => if mgI M 5400 0 s < 0 then 0 else shS M s n) i + (if mgI M 5400 0 i < 0 then 0 else shS M i n)) (nI (i + 1))
        by_cases e : mgI M 5400 0 i < 0
        · rw [if_pos e, if_pos e, Int32.add_zero]
        · rw [if_neg e, if_neg e]
  · rw [f1, f2]
    exact ⟨_, rfl, rfl⟩
theorem pw_q : ∀ n, n < 20 → (1 : Int32) <<< (nI n &&& 31) = nI (2 ^ n) := by decide +kernel
set_option maxHeartbeats 4000000 in
theorem qs_name {C M : Mem} {nS nL : Nat} (h : Sim C M nS nL) (a1 a2 a3 : Int32) : QA nS nL (fX11_name a1 a2 a3 C) (fX12_name a1 a2 a3 M) := by
  have hbb : nS ≤ 64 ∧ nL ≤ 200 := sm_b1 h
  unfold fX11_name fX12_name
  rcases st_c h a1 with ⟨s, hs, hb, rfl, e1, e2⟩ | ⟨e1, e2⟩
  · rw [e1, e2]
    simp only [nm_u, bd_u, oc_SU]
    rw [if_neg one_ne]
    rcases na_c a2 with ⟨n, hn, rfl, f1, f2⟩ | ⟨f1, f2⟩
    · rw [f1, f2, if_neg one_ne, if_neg one_ne]
      rcases rg_c a3 1 9 (by decide) (by decide) with ⟨h1, h2⟩ | ⟨h1, h2⟩ | ⟨v, hv1, hv2, rfl⟩
      · rw [if_pos (show a3 < 1 from h1), in_lo (show a3 < 1 from h1)]
        exact QA_same h rfl rfl
      · rw [if_neg (show ¬ a3 ≤ 9 from h2), ite_self, in_hi (show (9 : Int32) < a3 from h1)]
        exact QA_same h rfl rfl
      · obtain ⟨q1, q2⟩ := shx (show s < 64 by omega) hn
        rw [show fX12_in (nI v) 1 9 = 1 from in_ok (lo := 1) (hi := 9) hv1 hv2 (by decide), if_neg one_ne, if_neg (show ¬ nI v < 1 from nI_nlt (b := 1) hv1 (by omega)), if_pos (show nI v ≤ 9 from nI_le hv2 (by decide)), q1, ix_n hn (by omega), ix_n q2 (by omega), nI_clamp (by omega), nI_clamp (by omega)]
        obtain ⟨x, hx, ex, hxb⟩ := sm_e3 h s hs
        simp only [uI_I, uL_L, uR_R, uI_L, uI_R, uL_I, uL_R, uR_I, uR_L, Nat.reduceEqDiff, false_and, and_false, true_and, and_true, ↓reduceIte, ex]
        rw [pw_q n hn, fa_or]
        generalize hC' : msI (msI C 4000 s n (nI v)) 806 s 0 (nI (x ||| 2 ^ n)) = C'
        generalize hM' : msI M 8700 0 (20 * s + n) (nI v) = M'
        have hC : EqOff [4000, 806] C C' := by subst hC'; exact (EqOff.refl.I rfl).I rfl
        have hM : EqOff [8700] M M' := by subst hM'; exact EqOff.refl.I rfl
        have hCt := hC.txC rfl
        have hMt := hM.txM rfl
        have m7 : ∀ j, mgI M' 8700 0 j = if j = 20 * s + n then nI v else mgI M 8700 0 j := fun j => by subst hM'; simp only [uI_I, uL_L, uR_R, uI_L, uI_R, uL_I, uL_R, uR_I, uR_L, Nat.reduceEqDiff, false_and, and_false, true_and, and_true, ↓reduceIte]
        have c4 : ∀ t k, mgI C' 4000 t k = if t = s ∧ k = n then nI v else mgI C 4000 t k := fun t k => by subst hC'; simp only [uI_I, uL_L, uR_R, uI_L, uI_R, uL_I, uL_R, uR_I, uR_L, Nat.reduceEqDiff, false_and, and_false, true_and, and_true, ↓reduceIte]
        have c8 : ∀ t, mgI C' 806 t 0 = if t = s then nI (x ||| 2 ^ n) else mgI C 806 t 0 := fun t => by subst hC'; simp only [uI_I, uL_L, uR_R, uI_L, uI_R, uL_I, uL_R, uR_I, uR_L, Nat.reduceEqDiff, false_and, and_false, true_and, and_true, ↓reduceIte]
        have hxl : x ||| 2 ^ n < 1048576 := Nat.or_lt_two_pow (n := 20) hx (Nat.pow_lt_pow_right (by decide) hn)
        have g1 : f_e1 C' M' nS nL := fun t k ht hk => by
          rw [c4, m7]
          by_cases e : t = s ∧ k = n
          · rw [if_pos e, if_pos (by rw [e.1, e.2])]
          · rw [if_neg e, if_neg (fun z => e (by omega))]
            exact sm_e1 h t k ht hk
        have g2 : f_e2 C' M' nS nL := fun t k ht hk => by
          rw [m7]
          split
          · exact ⟨v, hv2, rfl⟩
          · exact sm_e2 h t k ht hk
        have hvn : ¬ nI v = 0 := nI_ne0 (by omega) (by omega)
        have hnb : ∀ k, (x ||| 2 ^ n).testBit k = decide (k < 20 ∧ ¬ mgI M' 8700 0 (20 * s + k) = 0) := fun k => by
          rw [Nat.testBit_or, Nat.testBit_two_pow, hxb, m7]
          by_cases e : k = n
          · subst e
            rw [if_pos rfl]
            simp [hn, hvn]
          · rw [if_neg (by omega)]
            simp [Ne.symm e]
        have g3 : f_e3 C' M' nS nL := fun t ht => by
          rw [c8]
          by_cases e : t = s
          · subst e
            rw [if_pos rfl]
            exact ⟨_, hxl, rfl, hnb⟩
          · rw [if_neg e]
            obtain ⟨y, hy, ey, hyb⟩ := sm_e3 h t ht
            refine ⟨y, hy, ey, fun k => ?_⟩
            rw [hyb, m7]
            by_cases hk : k < 20
            · rw [if_neg (by omega)]
            · simp [hk]
        have gz : f_z3 C' M' nS nL := fun j hj => by
          rw [m7, if_neg (by omega)]
          exact sm_z3 h j hj
        have hS : Sim C' M' nS nL := ⟨fr_b1 (sm_b1 h),
    fr_c1 (hC.on rfl)  (sm_c1 h),
    fr_c2  (hM.on rfl) (sm_c2 h),
    fr_r1 (hC.on rfl)  (sm_r1 h),
    fr_r2 (hC.on rfl)  (sm_r2 h),
    fr_s0 (hC.on rfl)  (sm_s0 h),
    fr_sK (hC.on rfl) (hM.on rfl) (sm_sK h),
    fr_sM (hC.on rfl) (hM.on rfl) (sm_sM h),
    fr_sA (hC.on rfl) (hM.on rfl) (sm_sA h),
    fr_sB (hC.on rfl) (hM.on rfl) (sm_sB h),
    fr_sI (hC.on rfl) (hM.on rfl) (sm_sI h),
    fr_sW (hC.on rfl) (hM.on rfl) (sm_sW h),
    fr_sP (hC.on rfl) (hM.on rfl) (sm_sP h),
    fr_sH (hC.on rfl) (hM.on rfl) (sm_sH h),
    fr_sT (hC.on rfl) (hM.on rfl) (sm_sT h),
    fr_vK  (hM.on rfl) (sm_vK h),
    fr_vB  (hM.on rfl) (sm_vB h),
    fr_n1  (hM.on rfl) (sm_n1 h),
    fr_n2 (hC.on rfl) (hM.on rfl) (sm_n2 h),
    fr_vM  (hM.on rfl) (sm_vM h),
    fr_vT  (hM.on rfl) (sm_vT h),
    fr_tB (hC.on rfl) (hM.on rfl) (sm_tB h),
    fr_vJ  (hM.on rfl) (sm_vJ h),
    fr_vH  (hM.on rfl) (sm_vH h),
    fr_l0 (hC.on rfl) (hM.on rfl) (sm_l0 h),
    fr_l1 (hC.on rfl) (hM.on rfl) (sm_l1 h),
    fr_l3 (hC.on rfl) (hM.on rfl) (sm_l3 h),
    fr_l4 (hC.on rfl) (hM.on rfl) (sm_l4 h),
    fr_l5 (hC.on rfl) (hM.on rfl) (sm_l5 h),
    fr_vL  (hM.on rfl) (sm_vL h),
    fr_vW  (hM.on rfl) (sm_vW h),
    fr_vE  (hM.on rfl) (sm_vE h),
    fr_vD  (hM.on rfl) (sm_vD h),
    fr_h1 (hC.on rfl) (hM.on rfl) (sm_h1 h),
    fr_h2 (hC.on rfl) (hM.on rfl) (sm_h2 h),
    fr_h3 (hC.on rfl) (hM.on rfl) (sm_h3 h),
    fr_h4 (hC.on rfl) (hM.on rfl) (sm_h4 h),
    fr_h5 (hC.on rfl) (hM.on rfl) (sm_h5 h),
    fr_z1  (hM.on rfl) (sm_z1 h),
    fr_z2  (hM.on rfl) (sm_z2 h),
    gz,
    g1,
    g2,
    g3,
    fr_o1  (hM.on rfl) (sm_o1 h),
    fr_o2 (hC.on rfl) (hM.on rfl) (sm_o2 h),
    fr_o3 (hC.on rfl) (hM.on rfl) (sm_o3 h),
    fr_o4 (hC.on rfl) (hM.on rfl) (sm_o4 h),
    fr_o5 (hC.on rfl) (hM.on rfl) (sm_o5 h),
    fr_o6  (hM.on rfl) (sm_o6 h),
    fr_g1 (hC.on rfl) (hM.on rfl) (sm_g1 h),
    fr_d1 (hC.on rfl) (hM.on rfl) (sm_d1 h),
    fr_t1 (hC.on rfl) (hM.on rfl) (sm_t1 h),
    fr_x1 hCt hMt (sm_x1 h),
    fr_a1 (hC.on rfl) (hM.on rfl) (sm_a1 h),
    fr_a2 (hC.on rfl) (hM.on rfl) (sm_a2 h),
    fr_p1 (hC.on rfl) (hM.on rfl) (sm_p1 h),
    fr_p2 (hC.on rfl) (hM.on rfl) (sm_p2 h)⟩
        rw [popI (by omega)]
        refine ⟨_, C', M', rfl, ?_, hS⟩
        have hct : ctU (x ||| 2 ^ n).testBit 32 = ctU (fun k => decide (¬ mgI M' 8700 0 (20 * s + k) ≤ 0)) 20 := by
          rw [ctU_ext (a := 20) (by omega) (fun k h1 h2 => by rw [hnb, decide_eq_false (by omega)])]
          refine ctU_cong (fun k hk => ?_)
          rw [hnb]
          obtain ⟨y, hy, ey⟩ := g2 s k hs hk
          rw [ey]
          rcases Nat.eq_zero_or_pos y with h0 | h0
          · subst h0
            rw [decide_eq_false (fun z => z.2 rfl), decide_eq_false (fun z => z (by decide))]
          · rw [decide_eq_true ⟨hk, nI_ne0 h0 (by omega)⟩, decide_eq_true (nI_nle h0 (by omega))]
        rw [hct]
        refine lpT (fun m i (y : Int32) => fX12_name_l48 M' (nI s) m y (nI i)) 20 (fun i => nI (ctU (fun k => decide (¬ mgI M' 8700 0 (20 * s + k) ≤ 0)) i)) _ (fun m => ?_) (fun m i hi => ?_) FU 0 (Nat.zero_le _) (FU_lt (by omega))
        · simp only [fX12_name_l48, fX12_name_b48]
          rw [if_pos (show (20 : Int32) ≤ nI 20 by decide)]
        · simp only [fX12_name_l48, fX12_name_b48]
          obtain ⟨p1, p2⟩ := shx (show s < 64 by omega) hi
          rw [if_neg (show ¬ (20 : Int32) ≤ nI i from nI_ge (b := 20) hi (by decide)), p1, ix_n p2 (by omega), nI_clamp (by omega)]
          simp only [nm_u, nI_1]
          show _ = fX12_name_l48 M' (nI s) m (nI (ctU (fun k => decide (¬ mgI M' 8700 0 (20 * s + k) ≤ 0)) i + (if decide (¬ mgI M' 8700 0 (20 * s + i) ≤ 0) = true then 1 else 0))) (nI (i + 1))
          by_cases e : mgI M' 8700 0 (20 * s + i) ≤ 0
          · rw [if_pos e, if_neg (by simpa using e)]
            rw [show nI (ctU (fun k => decide (¬ mgI M' 8700 0 (20 * s + k) ≤ 0)) i) + (0 : Int32) = nI (ctU (fun k => decide (¬ mgI M' 8700 0 (20 * s + k) ≤ 0)) i + 0) from nI_add _ 0]
          · rw [if_neg e, if_pos (by simpa using e)]
    · rw [f1, f2]
      exact QA_same h rfl rfl
  · rw [e1, e2]
    exact QA_same h rfl rfl
/-! span -/
theorem lt_C {C M : Mem} {nS nL : Nat} (h : Sim C M nS nL) (x y : Int32) : fX5_linesTo x y C = some (nI (ctU (fun l => decide (mgI M 6000 0 l = x ∧ mgI M 6200 0 l = y ∧ mgI M 6300 0 l = 0)) nL)) := by
  have hb : nS ≤ 64 ∧ nL ≤ 200 := sm_b1 h
  unfold fX5_linesTo
  refine lpT (fun m i (z : Int32) => fX5_linesTo_l5 C x y m z (nI i)) nL (fun i => nI (ctU (fun l => decide (mgI M 6000 0 l = x ∧ mgI M 6200 0 l = y ∧ mgI M 6300 0 l = 0)) i)) _ (fun m => ?_) (fun m i hi => ?_) FU 0 (Nat.zero_le _) (FU_lt (by omega))
  · simp only [fX5_linesTo_l5, fX5_linesTo_b5]
    rw [(sm_c1 h).2, if_pos (nI_le (Nat.le_refl _) (by omega))]
  · simp only [fX5_linesTo_l5, fX5_linesTo_b5]
    rw [(sm_c1 h).2, if_neg (nI_ge hi (by omega))]
    simp only [nm_u, ix_n (show i < 200 by omega) (show 200 < 2 ^ 31 by omega), nI_clamp (show i < 2 ^ 31 by omega), sm_r2 h i hi, oc_SU, sm_l1 h i hi, sm_l4 h i hi, sm_l5 h i hi, nI_1]
    show _ = fX5_linesTo_l5 C x y m (nI (ctU (fun l => decide (mgI M 6000 0 l = x ∧ mgI M 6200 0 l = y ∧ mgI M 6300 0 l = 0)) i + (if decide (mgI M 6000 0 i = x ∧ mgI M 6200 0 i = y ∧ mgI M 6300 0 i = 0) = true then 1 else 0))) (nI (i + 1))
    by_cases q1 : mgI M 6000 0 i = x
    · rw [if_pos q1]
      by_cases q2 : mgI M 6200 0 i = y
      · rw [if_pos q2]
        by_cases q3 : mgI M 6300 0 i = 0
        · rw [if_pos q3, if_pos (decide_eq_true ⟨q1, q2, q3⟩)]
        · rw [if_neg q3, if_neg (by simp [q3])]; rfl
      · rw [if_neg q2, if_neg (by simp [q2])]; rfl
    · rw [if_neg q1, if_neg (by simp [q1])]; rfl
def spP (M : Mem) (s w l : Nat) : Bool := decide (mgI M 6000 0 l = nI s ∧ mgI M 6300 0 l = 0 ∧ (w = 0 ∧ mgI M 6200 0 l = 0 ∨ w = 1 ∧ ¬ mgI M 6200 0 l = 1 ∨ w = 2 ∧ mgI M 6200 0 l = 2 ∨ w = 3 ∧ mgI M 6200 0 l = 1))
set_option maxHeartbeats 4000000 in
theorem sp_M {C M : Mem} {nS nL : Nat} (h : Sim C M nS nL) (s : Nat) {w : Nat} (hw : w < 4) : fX12_span_l24 M (nI s) (nI w) FU (0 : Int32) (0 : Int32) = some (nI (ctU (spP M s w) nL)) := by
  have hb : nS ≤ 64 ∧ nL ≤ 200 := sm_b1 h
  refine lpT (fun m i (z : Int32) => fX12_span_l24 M (nI s) (nI w) m z (nI i)) nL (fun i => nI (ctU (spP M s w) i)) _ (fun m => ?_) (fun m i hi => ?_) FU 0 (Nat.zero_le _) (FU_lt (by omega))
  · simp only [fX12_span_l24, fX12_span_b24]
    rw [(sm_c2 h).2, if_pos (nI_le (Nat.le_refl _) (by omega))]
  · simp only [fX12_span_l24, fX12_span_b24]
    rw [(sm_c2 h).2, if_neg (nI_ge hi (by omega))]
    have a0 : ∀ y : Nat, nI y + (0 : Int32) = nI (y + 0) := fun y => nI_add y 0
    simp only [nm_u, ix_n (show i < 200 by omega) (show 200 < 2 ^ 31 by omega), nI_clamp (show i < 2 ^ 31 by omega), nI_1, a0]
    show _ = fX12_span_l24 M (nI s) (nI w) m (nI (ctU (spP M s w) i + (if spP M s w i = true then 1 else 0))) (nI (i + 1))
    unfold spP
    obtain ⟨e, he, ee⟩ := sm_vE h i hi
    rw [ee]
    by_cases q1 : mgI M 6000 0 i = nI s
    · by_cases q2 : mgI M 6300 0 i = 0
      · have he3 : e = 0 ∨ e = 1 ∨ e = 2 := by omega
        have hw4 : w = 0 ∨ w = 1 ∨ w = 2 ∨ w = 3 := by omega
        have x00 : nI 0 = 0 := rfl
        have x11 : nI 1 = 1 := rfl
        have x22 : nI 2 = 2 := rfl
        have x33 : nI 3 = 3 := rfl
        have y01 : ¬ (0 : Int32) = 1 := by decide
        have y02 : ¬ (0 : Int32) = 2 := by decide
        have y03 : ¬ (0 : Int32) = 3 := by decide
        have y10 : ¬ (1 : Int32) = 0 := by decide
        have y12 : ¬ (1 : Int32) = 2 := by decide
        have y13 : ¬ (1 : Int32) = 3 := by decide
        have y20 : ¬ (2 : Int32) = 0 := by decide
        have y21 : ¬ (2 : Int32) = 1 := by decide
        have y23 : ¬ (2 : Int32) = 3 := by decide
        have y30 : ¬ (3 : Int32) = 0 := by decide
        have y31 : ¬ (3 : Int32) = 1 := by decide
        have y32 : ¬ (3 : Int32) = 2 := by decide
        rcases he3 with rfl | rfl | rfl <;> rcases hw4 with rfl | rfl | rfl | rfl <;> simp [q1, q2, x00, x11, x22, x33, y01, y02, y03, y10, y12, y13, y20, y21, y23, y30, y31, y32]
      · rw [if_pos q1, if_neg q2, if_neg (by simp [q2])]; rfl
    · rw [if_neg q1, if_neg (by simp [q1])]; rfl
theorem ctU_or {p q r : Nat → Bool} : ∀ {N : Nat}, (∀ k, k < N → r k = (p k || q k) ∧ (p k && q k) = false) → ctU r N = ctU p N + ctU q N
  | 0, _ => rfl
  | N + 1, h => by
    have ih := ctU_or (N := N) (fun k hk => h k (Nat.lt_succ_of_lt hk))
    obtain ⟨h1, h2⟩ := h N (Nat.lt_succ_self N)
    show ctU r N + (if r N = true then 1 else 0) = ctU p N + (if p N = true then 1 else 0) + (ctU q N + (if q N = true then 1 else 0))
    rw [ih, h1]
    cases hp : p N <;> cases hq : q N <;> simp_all <;> omega
theorem qs_span {C M : Mem} {nS nL : Nat} (h : Sim C M nS nL) (a1 a2 : Int32) : QP (fX11_span a1 a2 C) (fX12_span a1 a2 M) := by
  have hbb : nS ≤ 64 ∧ nL ≤ 200 := sm_b1 h
  unfold fX11_span fX12_span QP
  rcases st_c h a1 with ⟨s, hs, hb, rfl, e1, e2⟩ | ⟨e1, e2⟩
  · rw [e1, e2]
    simp only [nm_u, bd_u, oc_SU, lt_C h]
    rw [if_neg one_ne]
    rcases rg_c a2 0 3 (by decide) (by decide) with ⟨h1, h2⟩ | ⟨h1, h2⟩ | ⟨w, -, hw, rfl⟩
    · rw [in_lo (show a2 < 0 from h1)]
      have hn : ∀ k : Nat, k < 4 → ¬ a2 = nI k := fun k hk z => by rw [z] at h1; exact nI_nlt (Nat.zero_le k) (by omega) h1
      rw [if_neg (show ¬ a2 = 0 from hn 0 (by omega)), if_neg (show ¬ a2 = 1 from hn 1 (by omega)), if_neg (show ¬ a2 = 2 from hn 2 (by omega)), if_neg (show ¬ a2 = 3 from hn 3 (by omega))]
      exact ⟨_, rfl, rfl⟩
    · rw [in_hi (show (3 : Int32) < a2 from h1)]
      have hn : ∀ k : Nat, k < 4 → ¬ a2 = nI k := fun k hk z => by rw [z] at h1; exact nI_nlt (by omega) (by omega) h1
      rw [if_neg (show ¬ a2 = 0 from hn 0 (by omega)), if_neg (show ¬ a2 = 1 from hn 1 (by omega)), if_neg (show ¬ a2 = 2 from hn 2 (by omega)), if_neg (show ¬ a2 = 3 from hn 3 (by omega))]
      exact ⟨_, rfl, rfl⟩
    · rw [show fX12_in (nI w) 0 3 = 1 from in_ok (lo := 0) (hi := 3) (Nat.zero_le _) hw (by decide), if_neg one_ne, sp_M h s (show w < 4 by omega)]
      have hct : ∀ k : Nat, ∀ y : Int32, (k = 0 ∧ y = 0 ∨ k = 2 ∧ y = 2 ∨ k = 3 ∧ y = 1) → ctU (fun l => decide (mgI M 6000 0 l = nI s ∧ mgI M 6200 0 l = y ∧ mgI M 6300 0 l = 0)) nL = ctU (spP M s k) nL := fun k y hk => ctU_cong (fun l _ => by
        unfold spP
        rcases hk with ⟨rfl, rfl⟩ | ⟨rfl, rfl⟩ | ⟨rfl, rfl⟩ <;> simp [and_comm])
      have hw4 : w = 0 ∨ w = 1 ∨ w = 2 ∨ w = 3 := by omega
      rcases hw4 with rfl | rfl | rfl | rfl
      · rw [if_pos (show nI 0 = 0 from rfl), hct 0 0 (by simp)]
        exact ⟨_, rfl, rfl⟩
      · rw [if_neg (show ¬ nI 1 = 0 by decide), if_pos (show nI 1 = 1 from rfl), hct 0 0 (by simp), hct 2 2 (by simp), nI_add]
        refine ⟨_, rfl, ?_⟩
        rw [ctU_or (r := spP M s 1) (p := spP M s 0) (q := spP M s 2) (fun l hl => by
          obtain ⟨e, he, ee⟩ := sm_vE h l hl
          unfold spP
          rw [ee]
          have he3 : e = 0 ∨ e = 1 ∨ e = 2 := by omega
          have z1 : ¬ nI 0 = 1 := by decide
          have z2 : ¬ nI 0 = 2 := by decide
          have z3 : nI 0 = 0 := rfl
          have z4 : nI 1 = 1 := rfl
          have z5 : ¬ nI 1 = 0 := by decide
          have z6 : ¬ nI 1 = 2 := by decide
          have z7 : nI 2 = 2 := rfl
          have z8 : ¬ nI 2 = 0 := by decide
          have z9 : ¬ nI 2 = 1 := by decide
          rcases he3 with rfl | rfl | rfl
          · simp [z1, z2, z3]
          · simp [z4, z5, z6]
          · simp [z7, z8, z9])]
      · rw [if_neg (show ¬ nI 2 = 0 by decide), if_neg (show ¬ nI 2 = 1 by decide), if_pos (show nI 2 = 2 from rfl), hct 2 2 (by simp)]
        exact ⟨_, rfl, rfl⟩
      · rw [if_neg (show ¬ nI 3 = 0 by decide), if_neg (show ¬ nI 3 = 1 by decide), if_neg (show ¬ nI 3 = 2 by decide), if_pos (show nI 3 = 3 from rfl), hct 3 1 (by simp)]
        exact ⟨_, rfl, rfl⟩
  · rw [e1, e2]
    exact ⟨-1, rfl, rfl⟩
