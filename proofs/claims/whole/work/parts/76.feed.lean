theorem amt_s : ∀ j, j < 4 → (((8 : Int32) * nI j &&& 31).toBitVec.smod 32).toNat = 8 * j := by decide +kernel
theorem amt_u : ∀ j, j < 4 → ((((8 : Int32) * nI j).toUInt32 &&& Int32.toUInt32 31).toBitVec % 32).toNat = 8 * j := by decide +kernel
theorem b255 : ∀ i, i < 8 → (255 : Int32).toBitVec.getLsbD i = true := by decide +kernel
theorem fd_b (v : Int32) {j : Nat} (hj : j < 4) : ∃ b, b < 256 ∧ ((v.toUInt32 >>> (((8 : Int32) * nI j).toUInt32 &&& Int32.toUInt32 31)).toInt32) &&& (255 : Int32) = nI b ∧ vp_nar .byte ((v >>> (((8 : Int32) * nI j) &&& 31)).toInt8.toInt32) = (nI b).toInt8.toInt32 := by
  obtain ⟨b, hb, eb⟩ := pk_andE ((v.toUInt32 >>> (((8 : Int32) * nI j).toUInt32 &&& Int32.toUInt32 31)).toInt32) (m := 255) 8 (by decide +kernel)
  refine ⟨b, hb, eb, ?_⟩
  rw [pk_vb, ← eb]
  congr 1
  apply Int8.toBitVec_inj.1
  apply BitVec.eq_of_getLsbD_eq
  intro i hi
  have h1 : (v >>> (((8 : Int32) * nI j) &&& 31)).toBitVec.getLsbD i = v.toBitVec.getLsbD (8 * j + i) := by
    rw [Int32.toBitVec_shiftRight]
    show (v.toBitVec.sshiftRight (((8 : Int32) * nI j &&& 31).toBitVec.smod 32).toNat).getLsbD i = _
    rw [amt_s j hj, BitVec.getLsbD_sshiftRight]
    simp [show 8 * j + i < 32 by omega, show i < 32 by omega]
  have h2 : ((v.toUInt32 >>> (((8 : Int32) * nI j).toUInt32 &&& Int32.toUInt32 31)).toInt32).toBitVec.getLsbD i = v.toBitVec.getLsbD (8 * j + i) := by
    show (v.toUInt32 >>> (((8 : Int32) * nI j).toUInt32 &&& Int32.toUInt32 31)).toBitVec.getLsbD i = v.toUInt32.toBitVec.getLsbD (8 * j + i)
    rw [UInt32.toBitVec_shiftRight]
    show (v.toUInt32.toBitVec >>> ((((8 : Int32) * nI j).toUInt32 &&& Int32.toUInt32 31).toBitVec % 32).toNat).getLsbD i = _
    rw [amt_u j hj, BitVec.getLsbD_ushiftRight]
  show ((v >>> (((8 : Int32) * nI j) &&& 31)).toBitVec.signExtend 8).getLsbD i = ((((v.toUInt32 >>> (((8 : Int32) * nI j).toUInt32 &&& Int32.toUInt32 31)).toInt32) &&& (255 : Int32)).toBitVec.signExtend 8).getLsbD i
  rw [BitVec.getLsbD_signExtend, BitVec.getLsbD_signExtend, Int32.toBitVec_and, BitVec.getLsbD_and, b255 i hi, h1, h2]
  simp [hi, show i < 32 by omega]
/-- both tapes -/
def TaP (C M : Mem) (t : Nat) : Prop := mgI C 701 0 0 = nI t ∧ mgI M 1233 0 0 = nI t ∧ ∀ k, k < t → ∃ b, b < 256 ∧ mgI C 3900 0 k = nI b ∧ mgI M 7600 0 k = (nI b).toInt8.toInt32
theorem fd_l (v : Int32) {n : Nat} (hn : n ≤ 4) : ∀ (d i t : Nat) (C M : Mem), i + d = n → t + d ≤ 120 → TaP C M t → ∃ C' M', TaP C' M' (t + d) ∧ EqOff [3900, 701] C C' ∧ EqOff [7600, 1233] M M' ∧ (∀ m, d < m → fX7_addBytes_l16 (nI n) v m (nI i) C = some (nI (t + d), C')) ∧ (∀ m, d < m → fX12_feed_l27 (nI n) v m (nI i) M = some (nI (t + d), M'))
  | 0, i, t, C, M, hi, ht, h => by
    have : i = n := by omega
    subst this
    refine ⟨C, M, h, EqOff.refl, EqOff.refl, fun m hm => ?_, fun m hm => ?_⟩
    · obtain ⟨m, rfl⟩ : ∃ k, m = k + 1 := ⟨m - 1, by omega⟩
      simp only [fX7_addBytes_l16, fX7_addBytes_b16]
      rw [if_pos (nI_le (Nat.le_refl _) (by omega)), h.1]
      rfl
    · obtain ⟨m, rfl⟩ : ∃ k, m = k + 1 := ⟨m - 1, by omega⟩
      simp only [fX12_feed_l27, fX12_feed_b27]
      rw [if_pos (nI_le (Nat.le_refl _) (by omega)), h.2.1]
      rfl
  | d + 1, i, t, C, M, hi, ht, h => by
    obtain ⟨b, hb, e1, e2⟩ := fd_b v (show i < 4 by omega)
    obtain ⟨c1, m1, h3⟩ := h
    generalize hC1 : msI (msI C 3900 0 t (nI b)) 701 0 0 (nI (t + 1)) = C1
    generalize hM1 : msI (msI M 7600 0 t ((nI b).toInt8.toInt32)) 1233 0 0 (nI (t + 1)) = M1
    have h1 : TaP C1 M1 (t + 1) := by
      refine ⟨by subst hC1; simp only [uI_I, uL_L, uR_R, uI_L, uI_R, uL_I, uL_R, uR_I, uR_L, Nat.reduceEqDiff, false_and, and_false, true_and, and_true, ↓reduceIte], by subst hM1; simp only [uI_I, uL_L, uR_R, uI_L, uI_R, uL_I, uL_R, uR_I, uR_L, Nat.reduceEqDiff, false_and, and_false, true_and, and_true, ↓reduceIte], fun k hk => ?_⟩
      have a1 : mgI C1 3900 0 k = if k = t then nI b else mgI C 3900 0 k := by subst hC1; simp only [uI_I, uL_L, uR_R, uI_L, uI_R, uL_I, uL_R, uR_I, uR_L, Nat.reduceEqDiff, false_and, and_false, true_and, and_true, ↓reduceIte]
      have a2 : mgI M1 7600 0 k = if k = t then (nI b).toInt8.toInt32 else mgI M 7600 0 k := by subst hM1; simp only [uI_I, uL_L, uR_R, uI_L, uI_R, uL_I, uL_R, uR_I, uR_L, Nat.reduceEqDiff, false_and, and_false, true_and, and_true, ↓reduceIte]
      rw [a1, a2]
      by_cases e : k = t
      · rw [if_pos e, if_pos e]; exact ⟨b, hb, rfl, rfl⟩
      · rw [if_neg e, if_neg e]; exact h3 k (by omega)
    obtain ⟨C', M', g1, g2, g3, g4, g5⟩ := fd_l v hn d (i + 1) (t + 1) C1 M1 (by omega) (by omega) h1
    refine ⟨C', M', by rw [show t + (d + 1) = t + 1 + d by omega]; exact g1, EqOff.trans (by subst hC1; exact (EqOff.refl.I rfl).I rfl) g2, EqOff.trans (by subst hM1; exact (EqOff.refl.I rfl).I rfl) g3, fun m hm => ?_, fun m hm => ?_⟩
    · obtain ⟨m, rfl⟩ : ∃ k, m = k + 1 := ⟨m - 1, by omega⟩
      simp only [fX7_addBytes_l16, fX7_addBytes_b16]
      rw [if_neg (nI_ge (by omega) (by omega)), if_neg (show ¬ (4 : Int32) ≤ nI i from nI_ge (b := 4) (by omega) (by decide)), e1]
      simp only [nm_u, uI_I, uL_L, uR_R, uI_L, uI_R, uL_I, uL_R, uR_I, uR_L, Nat.reduceEqDiff, false_and, and_false, true_and, and_true, ↓reduceIte, c1, ix_n (show t < 120 by omega) (show 120 < 2 ^ 31 by omega), nI_clamp (show t < 2 ^ 31 by omega), nI_1]
      rw [hC1, g4 m (by omega)]
      congr 3
      omega
    · obtain ⟨m, rfl⟩ : ∃ k, m = k + 1 := ⟨m - 1, by omega⟩
      simp only [fX12_feed_l27, fX12_feed_b27]
      rw [if_neg (nI_ge (by omega) (by omega))]
      simp only [nm_u, uI_I, uL_L, uR_R, uI_L, uI_R, uL_I, uL_R, uR_I, uR_L, Nat.reduceEqDiff, false_and, and_false, true_and, and_true, ↓reduceIte, m1, ix_n (show t < 120 by omega) (show 120 < 2 ^ 31 by omega), nI_clamp (show t < 2 ^ 31 by omega), nI_1, e2]
      rw [hM1, g5 m (by omega)]
      congr 3
      omega
theorem qs_feed {C M : Mem} {nS nL : Nat} (h : Sim C M nS nL) (a1 a2 : Int32) : QA nS nL (fX11_feed a1 a2 C) (fX12_feed a1 a2 M) := by
  obtain ⟨t, t1, t2, t3, t4⟩ := sm_t1 h
  unfold fX11_feed fX12_feed fX7_addBytes
  simp only [nm_u]
  rw [t2, t3]
  rcases rg_c a1 1 4 (by decide) (by decide) with ⟨h1, h2⟩ | ⟨h1, h2⟩ | ⟨n, hn1, hn4, rfl⟩
  · rw [if_pos (show a1 < 1 from h1), in_lo (show a1 < 1 from h1)]
    exact QA_same h rfl rfl
  · rw [if_neg (show ¬ a1 ≤ 4 from h2), ite_self, in_hi (show (4 : Int32) < a1 from h1)]
    exact QA_same h rfl rfl
  · rw [show fX12_in (nI n) 1 4 = 1 from in_ok (lo := 1) (hi := 4) hn1 hn4 (by decide), if_neg one_ne, if_neg (show ¬ nI n < 1 from nI_nlt (b := 1) hn1 (by omega)), if_pos (show nI n ≤ 4 from nI_le hn4 (by decide)), nI_add]
    by_cases hf : t + n ≤ 120
    · rw [if_pos (show nI (t + n) ≤ 120 from nI_le hf (by decide)), if_pos (show nI (t + n) ≤ 120 from nI_le hf (by decide))]
      obtain ⟨C', M', g1, g2, g3, g4, g5⟩ := fd_l a2 hn4 n 0 t C M (by omega) (by omega) ⟨t2, t3, t4⟩
      rw [show (0 : Int32) = nI 0 from rfl, g4 FU (FU_lt (by omega)), g5 FU (FU_lt (by omega))]
      refine ⟨_, C', M', rfl, rfl, ?_⟩
      have hC := g2
      have hM := g3
      have hCt := hC.txC rfl
      have hMt := hM.txM rfl
      have g : f_t1 C' M' nS nL := ⟨t + n, hf, g1.1, g1.2.1, g1.2.2⟩
      exact ⟨fr_b1 (sm_b1 h),
    fr_c1 (hC.on rfl)  (sm_c1 h),
    fr_c2  (hM.on rfl) (sm_c2 h),
    fr_r1 (hC.on rfl)  (sm_r1 h),
    fr_r2 (hC.on rfl)  (sm_r2 h),
    fr_s0 (hC.on rfl)  (sm_s0 h),
    fr_sK (hC.on rfl) (hM.on rfl) (sm_sK h),
    fr_sM (hC.on rfl) (hM.on rfl) (sm_sM h),
    fr_sA (hC.on rfl) (hM.on rfl) (sm_sA h),
    fr_sB (hC.on rfl) (hM.on rfl) (sm_sB h),
    fr_sI (hC.on rfl) (hM.on rfl) (sm_sI h),
    fr_sW (hC.on rfl) (hM.on rfl) (sm_sW h),
    fr_sP (hC.on rfl) (hM.on rfl) (sm_sP h),
    fr_sH (hC.on rfl) (hM.on rfl) (sm_sH h),
    fr_sT (hC.on rfl) (hM.on rfl) (sm_sT h),
    fr_vK  (hM.on rfl) (sm_vK h),
    fr_vB  (hM.on rfl) (sm_vB h),
    fr_n1  (hM.on rfl) (sm_n1 h),
    fr_n2 (hC.on rfl) (hM.on rfl) (sm_n2 h),
    fr_vM  (hM.on rfl) (sm_vM h),
    fr_vT  (hM.on rfl) (sm_vT h),
    fr_tB (hC.on rfl) (hM.on rfl) (sm_tB h),
    fr_vJ  (hM.on rfl) (sm_vJ h),
    fr_vH  (hM.on rfl) (sm_vH h),
    fr_l0 (hC.on rfl) (hM.on rfl) (sm_l0 h),
    fr_l1 (hC.on rfl) (hM.on rfl) (sm_l1 h),
    fr_l3 (hC.on rfl) (hM.on rfl) (sm_l3 h),
    fr_l4 (hC.on rfl) (hM.on rfl) (sm_l4 h),
    fr_l5 (hC.on rfl) (hM.on rfl) (sm_l5 h),
    fr_vL  (hM.on rfl) (sm_vL h),
    fr_vW  (hM.on rfl) (sm_vW h),
    fr_vE  (hM.on rfl) (sm_vE h),
    fr_vD  (hM.on rfl) (sm_vD h),
    fr_h1 (hC.on rfl) (hM.on rfl) (sm_h1 h),
    fr_h2 (hC.on rfl) (hM.on rfl) (sm_h2 h),
    fr_h3 (hC.on rfl) (hM.on rfl) (sm_h3 h),
    fr_h4 (hC.on rfl) (hM.on rfl) (sm_h4 h),
    fr_h5 (hC.on rfl) (hM.on rfl) (sm_h5 h),
    fr_z1  (hM.on rfl) (sm_z1 h),
    fr_z2  (hM.on rfl) (sm_z2 h),
    fr_z3  (hM.on rfl) (sm_z3 h),
    fr_e1 (hC.on rfl) (hM.on rfl) (sm_e1 h),
    fr_e2  (hM.on rfl) (sm_e2 h),
    fr_e3 (hC.on rfl) (hM.on rfl) (sm_e3 h),
    fr_o1  (hM.on rfl) (sm_o1 h),
    fr_o2 (hC.on rfl) (hM.on rfl) (sm_o2 h),
    fr_o3 (hC.on rfl) (hM.on rfl) (sm_o3 h),
    fr_o4 (hC.on rfl) (hM.on rfl) (sm_o4 h),
    fr_o5 (hC.on rfl) (hM.on rfl) (sm_o5 h),
    fr_o6  (hM.on rfl) (sm_o6 h),
    fr_g1 (hC.on rfl) (hM.on rfl) (sm_g1 h),
    fr_d1 (hC.on rfl) (hM.on rfl) (sm_d1 h),
    g,
    fr_x1 hCt hMt (sm_x1 h),
    fr_a1 (hC.on rfl) (hM.on rfl) (sm_a1 h),
    fr_a2 (hC.on rfl) (hM.on rfl) (sm_a2 h),
    fr_p1 (hC.on rfl) (hM.on rfl) (sm_p1 h),
    fr_p2 (hC.on rfl) (hM.on rfl) (sm_p2 h)⟩
    · rw [if_neg (show ¬ nI (t + n) ≤ 120 from nI_ge (b := t + n) (a := 120) (by omega) (by omega)), if_neg (show ¬ nI (t + n) ≤ 120 from nI_ge (b := t + n) (a := 120) (by omega) (by omega))]
      exact QA_same h rfl rfl
/-! shift -/
theorem sub_toInt {a b : Nat} (ha : a < 2 ^ 31) (hb : b < 2 ^ 31) : (nI a - nI b).toInt = (a : Int) - b := by
  rw [Int32.toInt_sub, nI_toInt ha, nI_toInt hb]
  exact Int.bmod_eq_of_le (by omega) (by omega)
theorem sub_lt {a b c : Nat} (ha : a < 2 ^ 31) (hb : b < 2 ^ 31) (hc : c < 2 ^ 31) : nI a - nI b < nI c ↔ a < b + c := by
  rw [Int32.lt_iff_toInt_lt, sub_toInt ha hb, nI_toInt hc]
  omega
theorem sub_le {a b c : Nat} (ha : a < 2 ^ 31) (hb : b < 2 ^ 31) (hc : c < 2 ^ 31) : nI c ≤ nI a - nI b ↔ c + b ≤ a := by
  rw [Int32.le_iff_toInt_le, sub_toInt ha hb, nI_toInt hc]
  omega
theorem sh1_l {q i n : Nat} (hq : q < 6) (hin : i + n ≤ 60) (x5 x3 x4 : Int32) (hx5 : x5 = nI n) (P : Int32 × Mem → Prop) (M0 : Mem) (kk : ∀ M1, EqOff [9200] M0 M1 → (∀ k, k < n → mgL M1 9200 0 k = mgL M0 9100 0 (60 * q + i + k)) → Rt (fX12_shift_l150 x5 x3 x4 FU (0 : Int32) M1) P) : Rt (fX12_shift_l113 x5 x3 x4 (nI q) (nI i) FU (0 : Int32) M0) P := by
  subst hx5
  refine lpR (fun m k (x : Mem) => fX12_shift_l113 (nI n) x3 x4 (nI q) (nI i) m (nI k) x) P n (fun k x => EqOff [9200] M0 x ∧ ∀ j, j < k → mgL x 9200 0 j = mgL M0 9100 0 (60 * q + i + j)) (fun m x hI => ?_) (fun m k x hk hI kx => ?_) FU 0 M0 (Nat.zero_le _) ⟨EqOff.refl, fun j hj => absurd hj (Nat.not_lt_zero j)⟩ (FU_lt (by omega))
  · simp only [fX12_shift_l113, fX12_shift_b113]
    rw [if_pos (nI_le (Nat.le_refl _) (by omega))]
    exact kk x hI.1 hI.2
  · simp only [fX12_shift_l113, fX12_shift_b113]
    have e1 : (60 : Int32) * nI q + nI i + nI k = nI (60 * q + i + k) := by rw [show (60 : Int32) = nI 60 from rfl, pk_mul, nI_add, nI_add]
    rw [if_neg (nI_ge hk (by omega)), e1]
    simp only [nm_u, ix_n (show 60 * q + i + k < 360 by omega) (show 360 < 2 ^ 31 by omega), nI_clamp (show 60 * q + i + k < 2 ^ 31 by omega), ix_n (show k < 60 by omega) (show 60 < 2 ^ 31 by omega), nI_clamp (show k < 2 ^ 31 by omega), nI_1, (hI.1.on (K := [9100]) rfl 9100 (by decide)).2.1]
    refine kx _ ⟨hI.1.L rfl, fun j hj => ?_⟩
    simp only [uI_I, uL_L, uR_R, uI_L, uI_R, uL_I, uL_R, uR_I, uR_L, Nat.reduceEqDiff, false_and, and_false, true_and, and_true, ↓reduceIte]
    by_cases e : j = k
    · rw [if_pos e, e]
    · rw [if_neg e]; exact hI.2 j (by omega)
theorem sh2_l {o j n : Nat} (ho : o < 6) (hjn : j + n ≤ 60) (M1 : Mem) : ∃ M2, fX12_shift_l150 (nI n) (nI o) (nI j) FU (0 : Int32) M1 = some (nI n, M2) ∧ EqOff [9100] M1 M2 ∧ ∀ k, mgL M2 9100 0 k = if 60 * o + j ≤ k ∧ k < 60 * o + j + n then mgL M1 9200 0 (k - (60 * o + j)) else mgL M1 9100 0 k := by
  have H := lpR (fun m k (x : Mem) => fX12_shift_l150 (nI n) (nI o) (nI j) m (nI k) x) (fun r => r.1 = nI n ∧ EqOff [9100] M1 r.2 ∧ ∀ k, mgL r.2 9100 0 k = if 60 * o + j ≤ k ∧ k < 60 * o + j + n then mgL M1 9200 0 (k - (60 * o + j)) else mgL M1 9100 0 k) n (fun i x => EqOff [9100] M1 x ∧ ∀ k, mgL x 9100 0 k = if 60 * o + j ≤ k ∧ k < 60 * o + j + i then mgL M1 9200 0 (k - (60 * o + j)) else mgL M1 9100 0 k) (fun m x hI => ?_) (fun m i x hi hI kx => ?_) FU 0 M1 (Nat.zero_le _) ⟨EqOff.refl, fun k => by rw [if_neg (by omega)]⟩ (FU_lt (by omega))
  · obtain ⟨⟨r1, r2⟩, e, h1, h2, h3⟩ := H
    dsimp only at h1 h2 h3
    subst h1
    exact ⟨r2, e, h2, h3⟩
  · simp only [fX12_shift_l150, fX12_shift_b150]
    rw [if_pos (nI_le (Nat.le_refl _) (by omega))]
    exact Rt_s ⟨rfl, hI.1, hI.2⟩
  · simp only [fX12_shift_l150, fX12_shift_b150]
    have e1 : (60 : Int32) * nI o + nI j + nI i = nI (60 * o + j + i) := by rw [show (60 : Int32) = nI 60 from rfl, pk_mul, nI_add, nI_add]
    rw [if_neg (nI_ge hi (by omega)), e1]
    simp only [nm_u, ix_n (show 60 * o + j + i < 360 by omega) (show 360 < 2 ^ 31 by omega), nI_clamp (show 60 * o + j + i < 2 ^ 31 by omega), ix_n (show i < 60 by omega) (show 60 < 2 ^ 31 by omega), nI_clamp (show i < 2 ^ 31 by omega), nI_1, (hI.1.on (K := [9200]) rfl 9200 (by decide)).2.1]
    refine kx _ ⟨hI.1.L rfl, fun k => ?_⟩
    simp only [uI_I, uL_L, uR_R, uI_L, uI_R, uL_I, uL_R, uR_I, uR_L, Nat.reduceEqDiff, false_and, and_false, true_and, and_true, ↓reduceIte]
    by_cases e : k = 60 * o + j + i
    · rw [if_pos e, if_pos (by omega), e]
      congr 1
      omega
    · rw [if_neg e, hI.2 k]
      by_cases e2 : 60 * o + j ≤ k ∧ k < 60 * o + j + i
      · rw [if_pos e2, if_pos (by omega)]
      · rw [if_neg e2, if_neg (by omega)]
theorem msCp_I (M : Mem) (a b n f : Nat) : mgI (msCp M a b n) f = mgI M f := rfl
theorem msCp_R (M : Mem) (a b n f : Nat) : mgR (msCp M a b n) f = mgR M f := rfl
theorem msCp_L (M : Mem) (a b n f i j : Nat) : mgL (msCp M a b n) f i j = if (f = 3800 ∧ i = 0) ∧ b ≤ j ∧ j < b + n then mgL M 3800 0 (a + (j - b)) else mgL M f i j := rfl
theorem msCp_E (M : Mem) (a b n : Nat) : EqOff [3800] M (msCp M a b n) := fun f hf => ⟨rfl, by
  funext i j
  rw [msCp_L, if_neg (fun z => by rw [z.1.1] at hf; cases hf)], rfl⟩
theorem ng_i : ∀ e, e < 5 → ¬ (0 : Int32) ≤ -nI (2 + e) := by decide +kernel
/-- a range within a row: both sides -/
theorem hr_q {z : Nat} (hz : z ≤ 60) (i n : Int32) : (∃ a b, i = nI a ∧ n = nI b ∧ a + b ≤ z ∧ ¬ i < 0 ∧ ¬ n < 0 ∧ ¬ nI z < i ∧ ¬ nI z - i < n ∧ ¬ nI z - n < i ∧ i ≤ nI z - n) ∨ ((i < 0 ∨ n < 0 ∨ nI z < i ∨ nI z - i < n) ∧ (n < 0 ∨ i < 0 ∨ nI z - n < i) ∧ (n < 0 ∨ i < 0 ∨ ¬ i ≤ nI z - n)) := by
  by_cases h1 : i < 0
  · exact Or.inr ⟨Or.inl h1, Or.inr (Or.inl h1), Or.inr (Or.inl h1)⟩
  · by_cases h2 : n < 0
    · exact Or.inr ⟨Or.inr (Or.inl h2), Or.inl h2, Or.inl h2⟩
    · obtain ⟨a, ha, rfl⟩ := nI_of h1
      obtain ⟨b, hb, rfl⟩ := nI_of h2
      by_cases h3 : a + b ≤ z
      · refine Or.inl ⟨a, b, rfl, rfl, h3, h1, h2, nI_nlt (by omega) (by omega), ?_, ?_, ?_⟩
        · rw [sub_lt (by omega) ha hb]; omega
        · rw [sub_lt (by omega) hb ha]; omega
        · rw [sub_le (by omega) hb ha]; omega
      · refine Or.inr ⟨?_, Or.inr (Or.inr ?_), Or.inr (Or.inr ?_)⟩
        · by_cases h4 : z < a
          · exact Or.inr (Or.inr (Or.inl (nI_lt h4 ha)))
          · exact Or.inr (Or.inr (Or.inr (by rw [sub_lt (by omega) ha hb]; omega)))
        · rw [sub_lt (by omega) hb ha]; omega
        · rw [sub_le (by omega) hb ha]; omega
theorem hasR {C : Mem} {q z : Nat} (hq : q < 6) (hz : z ≤ 60) (e : mgI C 3600 0 q = nI z) (i n : Int32) : fX6_hasRange (nI q) i n C = some (if i < 0 ∨ n < 0 ∨ nI z < i ∨ nI z - i < n then 0 else 1) := by
  unfold fX6_hasRange
  rw [ix_n hq (by omega), nI_clamp (by omega), e]
  by_cases h1 : i < 0
  · rw [if_pos h1, if_pos (Or.inl h1)]
  · rw [if_neg h1]
    by_cases h2 : n < 0
    · rw [if_pos h2, if_pos (Or.inr (Or.inl h2))]
    · rw [if_neg h2]
      by_cases h3 : nI z < i
      · rw [if_pos h3, if_pos (Or.inr (Or.inr (Or.inl h3)))]
      · rw [if_neg h3, ix_n hq (by omega)]
        by_cases h4 : nI z - i < n
        · rw [if_pos h4, if_pos (Or.inr (Or.inr (Or.inr h4)))]
        · rw [if_neg h4, if_neg (by simp [h1, h2, h3, h4])]
set_option maxHeartbeats 4000000 in
theorem qs_shift {C M : Mem} {nS nL : Nat} (h : Sim C M nS nL) (a1 a2 a3 a4 a5 : Int32) : QA nS nL (fX11_shift a1 a2 a3 a4 a5 C) (fX12_shift a1 a2 a3 a4 a5 M) := by
  have hb : nS ≤ 64 ∧ nL ≤ 200 := sm_b1 h
  unfold fX11_shift fX12_shift
  simp only [nm_u]
  rcases pl_c a1 with ⟨q, hq, rfl, e1, e2⟩ | ⟨e1, e2⟩
  · rw [e1, e2]
    rw [if_neg one_ne, if_neg one_ne]
    rcases pl_c a3 with ⟨o, ho, rfl, e3, e4⟩ | ⟨e3, e4⟩
    · rw [e3, e4, if_neg one_ne, if_neg one_ne]
      simp only [fX6_isEmpty, fX6_isRow, fX6_areAlike, nI_clamp (show q < 2 ^ 31 by omega), nI_clamp (show o < 2 ^ 31 by omega), ix_n hq (show 6 < 2 ^ 31 by omega), ix_n ho (show 6 < 2 ^ 31 by omega)]
      rcases sm_p1 h q hq with ⟨c1, m1⟩ | ⟨s, hs, c1, c2, m1⟩ | ⟨e, z, he, hz, c1, m1, c2, m2⟩
      · rw [c1, m1]
        exact QA_same h rfl rfl
      · obtain ⟨f1, f2, f3⟩ := s_f s (by omega)
        obtain ⟨g1, g2, g3, g4⟩ := five_f
        rw [c1, m1, if_neg g1, if_neg f1, if_neg g2, if_pos g3, if_pos f3]
        simp only [bd_u, ↓reduceIte]
        by_cases hn : mgI C 3500 0 o = -1
        · have hm : mgI M 8900 0 o = -1 := by
            rcases sm_p1 h o ho with ⟨c1', m1'⟩ | ⟨s', hs', c1', c2', m1'⟩ | ⟨e', z', he', hz', c1', m1', c2', m2'⟩
            · exact m1'
            · rw [c1'] at hn; exact absurd hn g1
            · rw [c1'] at hn; exact absurd hn (ng_f e' (by omega)).2.2.2.1
          rw [if_pos hn, if_pos hm]
          exact QA_same h rfl rfl
        · have hm : ¬ mgI M 8900 0 o = -1 := by
            rcases sm_p1 h o ho with ⟨c1', m1'⟩ | ⟨s', hs', c1', c2', m1'⟩ | ⟨e', z', he', hz', c1', m1', c2', m2'⟩
            · exact absurd c1' hn
            · rw [m1']; exact (s_f s' (by omega)).1
            · rw [m1']; exact (ng_f e' (by omega)).1
          rw [if_neg hn, if_neg hm]
          exact QA_same h rfl rfl
      · obtain ⟨f1, f2, f3, f4, f5, f6, f7, f8⟩ := ng_f e (by omega)
        rw [c1, m1, if_neg f4, if_neg f1, if_neg f5, if_neg f6, if_neg (ng_i e (by omega))]
        simp only [bd_u, ↓reduceIte]
        rcases sm_p1 h o ho with ⟨d1, n1⟩ | ⟨s', hs', d1, d2, n1⟩ | ⟨e', z', he', hz', d1, n1, d2, n2⟩
        · rw [d1, n1]
          exact QA_same h rfl rfl
        · obtain ⟨y1, y2, y3⟩ := s_f s' (by omega)
          obtain ⟨g1, g2, g3, g4⟩ := five_f
          rw [d1, n1, if_neg g1, if_neg y1, if_neg g2, if_pos g3]
          simp only [bd_u, ↓reduceIte, if_neg one_ne]
          have hne : ¬ -nI (2 + e) = nI s' := fun w => y2 (by rw [← w]; exact f2)
          rw [if_neg hne]
          exact QA_same h rfl rfl
        · obtain ⟨y1, y2, y3, y4, y5, y6, y7, y8⟩ := ng_f e' (by omega)
          rw [d1, n1, if_neg y4, if_neg y1, if_neg y5, if_neg y6]
          simp only [bd_u, ↓reduceIte, if_neg one_ne]
          have hiff := ng_e e (by omega) e' (by omega)
          by_cases hee : nI e = nI e'
          · rw [if_pos hee, if_pos (hiff.mpr hee)]
            simp only [bd_u, if_neg one_ne]
            rw [hasR hq hz c2, hasR ho hz' d2, m2, n2]
            simp only [bd_u]
            rcases hr_q hz a2 a5 with ⟨a, b, rfl, rfl, r1, r2, r3, r4, r5, r6, r7⟩ | ⟨r1, r2, -⟩
            · rw [if_neg (show ¬ (nI a < 0 ∨ nI b < 0 ∨ nI z < nI a ∨ nI z - nI a < nI b) by simp [r2, r3, r4, r5]), if_neg one_ne, if_neg r3, if_neg r2, if_neg r6]
              rcases hr_q hz' a4 (nI b) with ⟨a', b', rfl, eb, t1, t2, t3, t4, t5, t6, t7⟩ | ⟨t1, -, t2⟩
              · have ebb : b' = b := (nI_eq (by omega) (by omega)).mp eb.symm
                subst ebb
                rw [if_neg (show ¬ (nI a' < 0 ∨ nI b' < 0 ∨ nI z' < nI a' ∨ nI z' - nI a' < nI b') by simp [t2, t3, t4, t5]), if_neg one_ne, if_neg t2, if_pos t7]
                unfold fX6_move cpk
                have i1 : nI q * (60 : Int32) + nI a = nI (60 * q + a) := by rw [show (60 : Int32) = nI 60 from rfl, pk_mul, nI_add, Nat.mul_comm]
                have i2 : nI o * (60 : Int32) + nI a' = nI (60 * o + a') := by rw [show (60 : Int32) = nI 60 from rfl, pk_mul, nI_add, Nat.mul_comm]
                rw [i1, i2, nI_toInt (by omega), nI_toInt (by omega), nI_toInt (by omega), if_pos ⟨by omega, by omega, by omega, by omega, by omega⟩, nI_clamp (by omega), nI_clamp (by omega), nI_clamp (by omega)]
                simp only [bE_u]
                have H := sh1_l hq (show a + b' ≤ 60 by omega) (nI b') (nI o) (nI a') rfl (fun r => r.1 = nI b' ∧ EqOff [9200, 9100] M r.2 ∧ ∀ k, mgL r.2 9100 0 k = if 60 * o + a' ≤ k ∧ k < 60 * o + a' + b' then mgL M 9100 0 (60 * q + a + (k - (60 * o + a'))) else mgL M 9100 0 k) M (fun M1 k1 k2 => by
                  obtain ⟨M2, l1, l2, l3⟩ := sh2_l ho (show a' + b' ≤ 60 by omega) M1
                  refine ⟨(nI b', M2), l1, rfl, EqOff.trans (k1.wide rfl) (l2.wide rfl), fun k => ?_⟩
                  show mgL M2 9100 0 k = _
                  rw [l3]
                  by_cases e5 : 60 * o + a' ≤ k ∧ k < 60 * o + a' + b'
                  · rw [if_pos e5, if_pos e5, k2 _ (by omega)]
                  · rw [if_neg e5, if_neg e5, (k1.on (K := [9100]) rfl 9100 (by decide)).2.1])
                obtain ⟨r, w1, w2, w3, w4⟩ := H
                rw [w1]
                refine ⟨nI b', msCp C (60 * q + a) (60 * o + a') b', r.2, rfl, by rw [← w2], ?_⟩
                have hC := msCp_E C (60 * q + a) (60 * o + a') b'
                have f1 : Sim C r.2 nS nL → Sim C r.2 nS nL := id
                have hM := w3
                generalize hC' : msCp C (60 * q + a) (60 * o + a') b' = C' at hC ⊢
                have hCt := hC.txC rfl
                have hMt := hM.txM rfl
                have gp : f_p2 C' r.2 nS nL := fun k hk => by
                  subst hC'
                  rw [msCp_L, w4]
                  by_cases e5 : 60 * o + a' ≤ k ∧ k < 60 * o + a' + b'
                  · rw [if_pos ⟨⟨rfl, rfl⟩, e5⟩, if_pos e5]
                    exact sm_p2 h _ (by omega)
                  · rw [if_neg (fun w => e5 w.2), if_neg e5]
                    exact sm_p2 h k hk
                exact ⟨fr_b1 (sm_b1 h),
    fr_c1 (hC.on rfl)  (sm_c1 h),
    fr_c2  (hM.on rfl) (sm_c2 h),
    fr_r1 (hC.on rfl)  (sm_r1 h),
    fr_r2 (hC.on rfl)  (sm_r2 h),
    fr_s0 (hC.on rfl)  (sm_s0 h),
    fr_sK (hC.on rfl) (hM.on rfl) (sm_sK h),
    fr_sM (hC.on rfl) (hM.on rfl) (sm_sM h),
    fr_sA (hC.on rfl) (hM.on rfl) (sm_sA h),
    fr_sB (hC.on rfl) (hM.on rfl) (sm_sB h),
    fr_sI (hC.on rfl) (hM.on rfl) (sm_sI h),
    fr_sW (hC.on rfl) (hM.on rfl) (sm_sW h),
    fr_sP (hC.on rfl) (hM.on rfl) (sm_sP h),
    fr_sH (hC.on rfl) (hM.on rfl) (sm_sH h),
    fr_sT (hC.on rfl) (hM.on rfl) (sm_sT h),
    fr_vK  (hM.on rfl) (sm_vK h),
    fr_vB  (hM.on rfl) (sm_vB h),
    fr_n1  (hM.on rfl) (sm_n1 h),
    fr_n2 (hC.on rfl) (hM.on rfl) (sm_n2 h),
    fr_vM  (hM.on rfl) (sm_vM h),
    fr_vT  (hM.on rfl) (sm_vT h),
    fr_tB (hC.on rfl) (hM.on rfl) (sm_tB h),
    fr_vJ  (hM.on rfl) (sm_vJ h),
    fr_vH  (hM.on rfl) (sm_vH h),
    fr_l0 (hC.on rfl) (hM.on rfl) (sm_l0 h),
    fr_l1 (hC.on rfl) (hM.on rfl) (sm_l1 h),
    fr_l3 (hC.on rfl) (hM.on rfl) (sm_l3 h),
    fr_l4 (hC.on rfl) (hM.on rfl) (sm_l4 h),
    fr_l5 (hC.on rfl) (hM.on rfl) (sm_l5 h),
    fr_vL  (hM.on rfl) (sm_vL h),
    fr_vW  (hM.on rfl) (sm_vW h),
    fr_vE  (hM.on rfl) (sm_vE h),
    fr_vD  (hM.on rfl) (sm_vD h),
    fr_h1 (hC.on rfl) (hM.on rfl) (sm_h1 h),
    fr_h2 (hC.on rfl) (hM.on rfl) (sm_h2 h),
    fr_h3 (hC.on rfl) (hM.on rfl) (sm_h3 h),
    fr_h4 (hC.on rfl) (hM.on rfl) (sm_h4 h),
    fr_h5 (hC.on rfl) (hM.on rfl) (sm_h5 h),
    fr_z1  (hM.on rfl) (sm_z1 h),
    fr_z2  (hM.on rfl) (sm_z2 h),
    fr_z3  (hM.on rfl) (sm_z3 h),
    fr_e1 (hC.on rfl) (hM.on rfl) (sm_e1 h),
    fr_e2  (hM.on rfl) (sm_e2 h),
    fr_e3 (hC.on rfl) (hM.on rfl) (sm_e3 h),
    fr_o1  (hM.on rfl) (sm_o1 h),
    fr_o2 (hC.on rfl) (hM.on rfl) (sm_o2 h),
    fr_o3 (hC.on rfl) (hM.on rfl) (sm_o3 h),
    fr_o4 (hC.on rfl) (hM.on rfl) (sm_o4 h),
    fr_o5 (hC.on rfl) (hM.on rfl) (sm_o5 h),
    fr_o6  (hM.on rfl) (sm_o6 h),
    fr_g1 (hC.on rfl) (hM.on rfl) (sm_g1 h),
    fr_d1 (hC.on rfl) (hM.on rfl) (sm_d1 h),
    fr_t1 (hC.on rfl) (hM.on rfl) (sm_t1 h),
    fr_x1 hCt hMt (sm_x1 h),
    fr_a1 (hC.on rfl) (hM.on rfl) (sm_a1 h),
    fr_a2 (hC.on rfl) (hM.on rfl) (sm_a2 h),
    fr_p1 (hC.on rfl) (hM.on rfl) (sm_p1 h),
    gp⟩
              · rw [if_pos t1, if_pos rfl]
                by_cases u1 : a4 < 0
                · rw [if_pos u1]; exact QA_same h rfl rfl
                · rw [if_neg u1, if_neg (by
                    rcases t2 with t2 | t2 | t2
                    · exact absurd t2 r3
                    · exact absurd t2 u1
                    · exact t2)]
                  exact QA_same h rfl rfl
            · rw [if_pos r1, if_pos rfl]
              by_cases u1 : a5 < 0
              · rw [if_pos u1]; exact QA_same h rfl rfl
              · rw [if_neg u1]
                by_cases u2 : a2 < 0
                · rw [if_pos u2]; exact QA_same h rfl rfl
                · rw [if_neg u2]
                  by_cases u3 : a4 < 0
                  · rw [if_pos u3]; exact QA_same h rfl rfl
                  · rw [if_neg u3, if_pos (by
                      rcases r2 with r2 | r2 | r2
                      · exact absurd r2 u1
                      · exact absurd r2 u2
                      · exact r2)]
                    exact QA_same h rfl rfl
          · rw [if_neg hee, if_neg (fun w => hee (hiff.mp w))]
            exact QA_same h rfl rfl
    · rw [e3, e4]
      exact QA_same h rfl rfl
  · rw [e1, e2]
    exact QA_same h rfl rfl
