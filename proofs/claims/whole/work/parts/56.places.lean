theorem pl_c (x : Int32) : (∃ q, q < 6 ∧ x = nI q ∧ fX6_isPlace x = 1 ∧ fX12_isShelf x = 1) ∨ (fX6_isPlace x = 0 ∧ fX12_isShelf x = 0) := by
  rcases rg_c x 0 5 (by decide) (by decide) with ⟨h1, h2⟩ | ⟨h1, h2⟩ | ⟨q, -, hq, rfl⟩
  · refine Or.inr ⟨?_, in_lo h1⟩
    unfold fX6_isPlace
    rw [if_pos (show x < 0 from h1)]
  · refine Or.inr ⟨?_, in_hi h1⟩
    unfold fX6_isPlace
    rw [if_pos (show (6 : Int32) ≤ x from nI_aft (n := 5) (by decide) h1), ite_self]
  · refine Or.inl ⟨q, by omega, rfl, ?_, in_ok (lo := 0) (hi := 5) (Nat.zero_le _) hq (by decide)⟩
    unfold fX6_isPlace
    rw [if_neg (nI_pos (by omega)), if_neg (show ¬ (6 : Int32) ≤ nI q from nI_ge (b := 6) (by omega) (by decide))]
theorem ng_f : ∀ e, e < 5 → ¬ -nI (2 + e) = -1 ∧ -nI (2 + e) < 0 ∧ (-2 : Int32) - (-nI (2 + e)) = nI e ∧ ¬ nI e = -1 ∧ ¬ nI e < 0 ∧ ¬ (4 : Int32) < nI e ∧ (-2 : Int32) - nI e = -nI (2 + e) ∧ ¬ nI e = 5 := by decide +kernel
theorem ng_e : ∀ a, a < 5 → ∀ b, b < 5 → (-nI (2 + a) = -nI (2 + b) ↔ nI a = nI b) := by decide +kernel
theorem s_f : ∀ s, s < 64 → ¬ nI s = -1 ∧ ¬ nI s < 0 ∧ (0 : Int32) ≤ nI s := by decide +kernel
theorem five_f : ¬ (nI 5 = -1) ∧ ¬ nI 5 < 0 ∧ (4 : Int32) < nI 5 ∧ nI 5 = 5 := by decide +kernel
theorem rf_c {C M : Mem} {nS nL : Nat} (h : Sim C M nS nL) (x i : Int32) : (∃ r, fX6_refuses x i C = some r ∧ fX12_whyNoPlace x i M = some r ∧ ¬ r = 0 ∧ ¬ 0 ≤ r) ∨ (∃ q e z j, q < 6 ∧ x = nI q ∧ e < 5 ∧ z ≤ 60 ∧ j < z ∧ i = nI j ∧ mgI C 3500 0 q = nI e ∧ mgI M 8900 0 q = -nI (2 + e) ∧ fX6_refuses x i C = some 0 ∧ fX12_whyNoPlace x i M = some 0) := by
  have hb := (sm_b1 h).1
  unfold fX6_refuses fX12_whyNoPlace
  rcases pl_c x with ⟨q, hq, rfl, e1, e2⟩ | ⟨e1, e2⟩
  · rw [e1, e2]
    simp only [nm_q, fX6_isEmpty, fX6_isRow, fX6_hasElement, nI_clamp (show q < 2 ^ 31 by omega), ix_n (show q < 6 by omega) (show 6 < 2 ^ 31 by omega), bd_s]
    rw [if_neg one_ne, if_neg one_ne]
    rcases sm_p1 h q hq with ⟨c1, m1⟩ | ⟨s, hs, c1, -, m1⟩ | ⟨e, z, he, hz, c1, m1, c2, m2⟩
    · rw [c1, m1]
      exact Or.inl ⟨-11, rfl, rfl, by decide, by decide⟩
    · rw [c1, m1]
      obtain ⟨f1, f2, f3⟩ := s_f s (by omega)
      obtain ⟨g1, g2, g3, -⟩ := five_f
      rw [if_neg g1, if_neg f1, if_neg f2]
      simp only [bd_s, if_neg g2, if_pos g3, ↓reduceIte]
      exact Or.inl ⟨-12, rfl, rfl, by decide, by decide⟩
    · rw [c1, m1, c2, m2]
      obtain ⟨f1, f2, f3, f4, f5, f6, -, -⟩ := ng_f e (by omega)
      rw [if_neg f4, if_neg f1, if_pos f2]
      simp only [bd_s, if_neg f5, if_neg f6, ↓reduceIte, if_neg one_ne]
      rcases rg_c i 0 (z - 1) (by omega) (by omega) with ⟨h1, h2⟩ | ⟨h1, h2⟩ | ⟨j, -, hj, rfl⟩
      · rw [if_pos (show i < 0 from h1), in_lo (show i < 0 from h1)]
        exact Or.inl ⟨-13, rfl, rfl, by decide, by decide⟩
      · rcases Nat.eq_zero_or_pos z with hz0 | hz0
        · subst hz0
          have h3 : nI 0 ≤ i := Int32.le_of_lt h1
          rw [if_pos h3, ite_self, in_hi (Int32.lt_of_lt_of_le (show nI 0 - (1 : Int32) < nI 0 by decide) h3)]
          exact Or.inl ⟨-13, rfl, rfl, by decide, by decide⟩
        · have h3 : nI z ≤ i := by
            have := nI_aft (n := z - 1) (by omega) h1
            rwa [show z - 1 + 1 = z by omega] at this
          rw [if_pos h3, ite_self, in_hi (show nI z - (1 : Int32) < i by rw [show nI z - (1 : Int32) = nI (z - 1) from pk_sub (b := 1) hz0]; exact h1)]
          exact Or.inl ⟨-13, rfl, rfl, by decide, by decide⟩
      · rcases Nat.eq_zero_or_pos z with hz0 | hz0
        · subst hz0
          rw [if_neg (nI_pos (by omega)), if_pos (nI_le (Nat.zero_le _) (by omega)), in_hi (show nI 0 - (1 : Int32) < nI j by rw [show j = 0 by omega]; decide)]
          exact Or.inl ⟨-13, rfl, rfl, by decide, by decide⟩
        · rw [if_neg (nI_pos (by omega)), if_neg (nI_ge (by omega) (by omega)), show fX12_in (nI j) 0 (nI z - (1 : Int32)) = 1 by
            rw [show nI z - (1 : Int32) = nI (z - 1) from pk_sub (b := 1) hz0]; exact in_ok (lo := 0) (Nat.zero_le _) hj (by omega)]
          simp only [bd_s]
          exact Or.inr ⟨q, e, z, j, hq, rfl, by omega, hz, by omega, rfl, c1, m1, rfl, rfl⟩
  · rw [e1, e2]
    exact Or.inl ⟨-1, rfl, rfl, by decide, by decide⟩
theorem cel {q j : Nat} (hq : q < 6) (hj : j < 60) : nI q * (60 : Int32) + nI j = nI (60 * q + j) ∧ (60 : Int32) * nI q + nI j = nI (60 * q + j) ∧ 60 * q + j < 360 := by
  refine ⟨?_, ?_, by omega⟩
  · rw [show (60 : Int32) = nI 60 from rfl, pk_mul, nI_add, Nat.mul_comm]
  · rw [show (60 : Int32) = nI 60 from rfl, pk_mul, nI_add]
theorem qs_element {C M : Mem} {nS nL : Nat} (h : Sim C M nS nL) (a1 a2 : Int32) : ∃ r, fX11_element a1 a2 C = some r ∧ fX12_element a1 a2 M = some r := by
  unfold fX11_element fX12_element
  rcases rf_c h a1 a2 with ⟨r, e1, e2, n0, n1⟩ | ⟨q, e, z, j, hq, rfl, he, hz, hj, rfl, -, -, e1, e2⟩
  · rw [e1, e2]
    simp only [bd_s]
    rw [if_neg n0, if_neg n1]
    exact ⟨_, rfl, rfl⟩
  · rw [e1, e2]
    obtain ⟨c1, c2, c3⟩ := cel hq (show j < 60 by omega)
    simp only [bd_s, fX6_at, c1, c2, ix_n c3 (show 360 < 2 ^ 31 by omega), nI_clamp (show 60 * q + j < 2 ^ 31 by omega)]
    rw [if_pos trivial, if_pos (show (0 : Int32) ≤ 0 by decide), sm_p2 h _ c3]
    exact ⟨_, rfl, rfl⟩
theorem narw : ∀ e, e < 5 → (nI e = 0 ↔ e = 0) ∧ (nI e = 1 ↔ e = 1) ∧ (nI e = 2 ↔ e = 2) ∧ (nI e = 3 ↔ e = 3) := by decide +kernel
theorem qs_put {C M : Mem} {nS nL : Nat} (h : Sim C M nS nL) (a1 a2 : Int32) (v : Int64) : QA nS nL (fX11_put a1 a2 v C) (fX12_put a1 a2 v M) := by
  unfold fX11_put fX12_put
  rcases rf_c h a1 a2 with ⟨r, e1, e2, n0, n1⟩ | ⟨q, e, z, j, hq, rfl, he, hz, hj, rfl, f1, f2, e1, e2⟩
  · rw [e1, e2]
    simp only [bd_s]
    rw [if_neg n0, if_neg n1]
    exact QA_same h rfl rfl
  · rw [e1, e2]
    obtain ⟨c1, c2, c3⟩ := cel hq (show j < 60 by omega)
    obtain ⟨-, -, g3, -⟩ := ng_f e he
    simp only [bd_s, fX6_store, nm_q, c1, c2, ix_n c3 (show 360 < 2 ^ 31 by omega), ix_n hq (show 6 < 2 ^ 31 by omega), nI_clamp (show 60 * q + j < 2 ^ 31 by omega), nI_clamp (show q < 2 ^ 31 by omega), f1, f2, g3, bE_s]
    rw [if_pos trivial, if_pos (show (0 : Int32) ≤ 0 by decide)]
    have key : ∀ w : Int64, QA nS nL (some ((1 : Int32), msL C 3800 0 (60 * q + j) w)) (some ((1 : Int32), msL M 9100 0 (60 * q + j) w)) := fun w => by
      refine ⟨_, _, _, rfl, rfl, ?_⟩
      have hC : EqOff [3800] C (msL C 3800 0 (60 * q + j) w) := EqOff.refl.L rfl
      have hM : EqOff [9100] M (msL M 9100 0 (60 * q + j) w) := EqOff.refl.L rfl
      have hCt := hC.txC rfl
      have hMt := hM.txM rfl
      exact ⟨fr_b1 (sm_b1 h),
    fr_c1 (hC.on rfl)  (sm_c1 h),
    fr_c2  (hM.on rfl) (sm_c2 h),
    fr_r1 (hC.on rfl)  (sm_r1 h),
    fr_r2 (hC.on rfl)  (sm_r2 h),
    fr_s0 (hC.on rfl)  (sm_s0 h),
    fr_sK (hC.on rfl) (hM.on rfl) (sm_sK h),
    fr_sM (hC.on rfl) (hM.on rfl) (sm_sM h),
    fr_sA (hC.on rfl) (hM.on rfl) (sm_sA h),
    fr_sB (hC.on rfl) (hM.on rfl) (sm_sB h),
    fr_sI (hC.on rfl) (hM.on rfl) (sm_sI h),
    fr_sW (hC.on rfl) (hM.on rfl) (sm_sW h),
    fr_sP (hC.on rfl) (hM.on rfl) (sm_sP h),
    fr_sH (hC.on rfl) (hM.on rfl) (sm_sH h),
    fr_sT (hC.on rfl) (hM.on rfl) (sm_sT h),
    fr_vK  (hM.on rfl) (sm_vK h),
    fr_vB  (hM.on rfl) (sm_vB h),
    fr_n1  (hM.on rfl) (sm_n1 h),
    fr_n2 (hC.on rfl) (hM.on rfl) (sm_n2 h),
    fr_vM  (hM.on rfl) (sm_vM h),
    fr_vT  (hM.on rfl) (sm_vT h),
    fr_tB (hC.on rfl) (hM.on rfl) (sm_tB h),
    fr_vJ  (hM.on rfl) (sm_vJ h),
    fr_vH  (hM.on rfl) (sm_vH h),
    fr_l0 (hC.on rfl) (hM.on rfl) (sm_l0 h),
    fr_l1 (hC.on rfl) (hM.on rfl) (sm_l1 h),
    fr_l3 (hC.on rfl) (hM.on rfl) (sm_l3 h),
    fr_l4 (hC.on rfl) (hM.on rfl) (sm_l4 h),
    fr_l5 (hC.on rfl) (hM.on rfl) (sm_l5 h),
    fr_vL  (hM.on rfl) (sm_vL h),
    fr_vW  (hM.on rfl) (sm_vW h),
    fr_vE  (hM.on rfl) (sm_vE h),
    fr_vD  (hM.on rfl) (sm_vD h),
    fr_h1 (hC.on rfl) (hM.on rfl) (sm_h1 h),
    fr_h2 (hC.on rfl) (hM.on rfl) (sm_h2 h),
    fr_h3 (hC.on rfl) (hM.on rfl) (sm_h3 h),
    fr_h4 (hC.on rfl) (hM.on rfl) (sm_h4 h),
    fr_h5 (hC.on rfl) (hM.on rfl) (sm_h5 h),
    fr_z1  (hM.on rfl) (sm_z1 h),
    fr_z2  (hM.on rfl) (sm_z2 h),
    fr_z3  (hM.on rfl) (sm_z3 h),
    fr_e1 (hC.on rfl) (hM.on rfl) (sm_e1 h),
    fr_e2  (hM.on rfl) (sm_e2 h),
    fr_e3 (hC.on rfl) (hM.on rfl) (sm_e3 h),
    fr_o1  (hM.on rfl) (sm_o1 h),
    fr_o2 (hC.on rfl) (hM.on rfl) (sm_o2 h),
    fr_o3 (hC.on rfl) (hM.on rfl) (sm_o3 h),
    fr_o4 (hC.on rfl) (hM.on rfl) (sm_o4 h),
    fr_o5 (hC.on rfl) (hM.on rfl) (sm_o5 h),
    fr_o6  (hM.on rfl) (sm_o6 h),
    fr_g1 (hC.on rfl) (hM.on rfl) (sm_g1 h),
    fr_d1 (hC.on rfl) (hM.on rfl) (sm_d1 h),
    fr_t1 (hC.on rfl) (hM.on rfl) (sm_t1 h),
    fr_x1 hCt hMt (sm_x1 h),
    fr_a1 (hC.on rfl) (hM.on rfl) (sm_a1 h),
    fr_a2 (hC.on rfl) (hM.on rfl) (sm_a2 h),
    fr_p1 (hC.on rfl) (hM.on rfl) (sm_p1 h),
    (fun t ht => by rw [mgL_L, mgL_L]; by_cases e : t = 60 * q + j; rw [if_pos ⟨rfl, rfl, e⟩, if_pos ⟨rfl, rfl, e⟩]; rw [if_neg (fun z => e z.2.2), if_neg (fun z => e z.2.2)]; exact sm_p2 h t ht)⟩
    unfold fX6_narrowed
    obtain ⟨k0, k1, k2, k3⟩ := narw e he
    by_cases h0 : e = 0
    · rw [if_pos (k0.mpr h0), if_pos (k0.mpr h0)]; exact key _
    rw [if_neg (fun z => h0 (k0.mp z)), if_neg (fun z => h0 (k0.mp z))]
    by_cases h1 : e = 1
    · rw [if_pos (k1.mpr h1), if_pos (k1.mpr h1)]; exact key _
    rw [if_neg (fun z => h1 (k1.mp z)), if_neg (fun z => h1 (k1.mp z))]
    by_cases h2 : e = 2
    · rw [if_pos (k2.mpr h2), if_pos (k2.mpr h2)]; exact key _
    rw [if_neg (fun z => h2 (k2.mp z)), if_neg (fun z => h2 (k2.mp z))]
    by_cases h3 : e = 3
    · rw [if_pos (k3.mpr h3), if_pos (k3.mpr h3)]; exact key _
    rw [if_neg (fun z => h3 (k3.mp z)), if_neg (fun z => h3 (k3.mp z))]
    by_cases hv : lg_cmp v (0 : Int64) = 0
    · rw [if_pos hv, if_pos hv]; exact key _
    · rw [if_neg hv, if_neg hv]; exact key _
theorem qs_keep {C M : Mem} {nS nL : Nat} (h : Sim C M nS nL) (a1 a2 : Int32) : QA nS nL (fX11_keep a1 a2 C) (fX12_keep a1 a2 M) := by
  have hb := (sm_b1 h).1
  unfold fX11_keep fX12_keep
  rcases pl_c a1 with ⟨q, hq, rfl, e1, e2⟩ | ⟨e1, e2⟩
  · rw [e1, e2]
    simp only [nm_q, fX6_holdStone, nI_clamp (show q < 2 ^ 31 by omega), ix_n (show q < 6 by omega) (show 6 < 2 ^ 31 by omega)]
    rw [if_neg one_ne, if_neg one_ne]
    have key : ∀ (v w : Int32), ((v = -1 ∧ w = -1) ∨ ∃ s, s < nS ∧ v = nI 5 ∧ w = nI s) → QA nS nL (some ((1 : Int32), msI (msI (msI C 3500 0 q v) 3700 0 q w) 3600 0 q (0 : Int32))) (some ((1 : Int32), msI M 8900 0 q w)) := fun v w hvw => by
      refine ⟨_, _, _, rfl, rfl, ?_⟩
      have hC : EqOff [3500, 3700, 3600] C (msI (msI (msI C 3500 0 q v) 3700 0 q w) 3600 0 q (0 : Int32)) := ((EqOff.refl.I rfl).I rfl).I rfl
      have hM : EqOff [8900] M (msI M 8900 0 q w) := EqOff.refl.I rfl
      have hCt := hC.txC rfl
      have hMt := hM.txM rfl
      have gp : f_p1 (msI (msI (msI C 3500 0 q v) 3700 0 q w) 3600 0 q (0 : Int32)) (msI M 8900 0 q w) nS nL := fun t ht => by
        simp only [mgI_I, mgL_L, mgR_R, mgI_L, mgI_R, mgL_I, mgL_R, mgR_I, mgR_L, Nat.reduceEqDiff, false_and, and_false, true_and, and_true, ↓reduceIte]
        by_cases e : t = q
        · simp only [if_pos e]
          rcases hvw with ⟨rfl, rfl⟩ | ⟨s, hs, rfl, rfl⟩
          · exact Or.inl ⟨rfl, rfl⟩
          · exact Or.inr (Or.inl ⟨s, hs, rfl, rfl, rfl⟩)
        · simp only [if_neg e]
          exact sm_p1 h t ht
      exact ⟨fr_b1 (sm_b1 h),
    fr_c1 (hC.on rfl)  (sm_c1 h),
    fr_c2  (hM.on rfl) (sm_c2 h),
    fr_r1 (hC.on rfl)  (sm_r1 h),
    fr_r2 (hC.on rfl)  (sm_r2 h),
    fr_s0 (hC.on rfl)  (sm_s0 h),
    fr_sK (hC.on rfl) (hM.on rfl) (sm_sK h),
    fr_sM (hC.on rfl) (hM.on rfl) (sm_sM h),
    fr_sA (hC.on rfl) (hM.on rfl) (sm_sA h),
    fr_sB (hC.on rfl) (hM.on rfl) (sm_sB h),
    fr_sI (hC.on rfl) (hM.on rfl) (sm_sI h),
    fr_sW (hC.on rfl) (hM.on rfl) (sm_sW h),
    fr_sP (hC.on rfl) (hM.on rfl) (sm_sP h),
    fr_sH (hC.on rfl) (hM.on rfl) (sm_sH h),
    fr_sT (hC.on rfl) (hM.on rfl) (sm_sT h),
    fr_vK  (hM.on rfl) (sm_vK h),
    fr_vB  (hM.on rfl) (sm_vB h),
    fr_n1  (hM.on rfl) (sm_n1 h),
    fr_n2 (hC.on rfl) (hM.on rfl) (sm_n2 h),
    fr_vM  (hM.on rfl) (sm_vM h),
    fr_vT  (hM.on rfl) (sm_vT h),
    fr_tB (hC.on rfl) (hM.on rfl) (sm_tB h),
    fr_vJ  (hM.on rfl) (sm_vJ h),
    fr_vH  (hM.on rfl) (sm_vH h),
    fr_l0 (hC.on rfl) (hM.on rfl) (sm_l0 h),
    fr_l1 (hC.on rfl) (hM.on rfl) (sm_l1 h),
    fr_l3 (hC.on rfl) (hM.on rfl) (sm_l3 h),
    fr_l4 (hC.on rfl) (hM.on rfl) (sm_l4 h),
    fr_l5 (hC.on rfl) (hM.on rfl) (sm_l5 h),
    fr_vL  (hM.on rfl) (sm_vL h),
    fr_vW  (hM.on rfl) (sm_vW h),
    fr_vE  (hM.on rfl) (sm_vE h),
    fr_vD  (hM.on rfl) (sm_vD h),
    fr_h1 (hC.on rfl) (hM.on rfl) (sm_h1 h),
    fr_h2 (hC.on rfl) (hM.on rfl) (sm_h2 h),
    fr_h3 (hC.on rfl) (hM.on rfl) (sm_h3 h),
    fr_h4 (hC.on rfl) (hM.on rfl) (sm_h4 h),
    fr_h5 (hC.on rfl) (hM.on rfl) (sm_h5 h),
    fr_z1  (hM.on rfl) (sm_z1 h),
    fr_z2  (hM.on rfl) (sm_z2 h),
    fr_z3  (hM.on rfl) (sm_z3 h),
    fr_e1 (hC.on rfl) (hM.on rfl) (sm_e1 h),
    fr_e2  (hM.on rfl) (sm_e2 h),
    fr_e3 (hC.on rfl) (hM.on rfl) (sm_e3 h),
    fr_o1  (hM.on rfl) (sm_o1 h),
    fr_o2 (hC.on rfl) (hM.on rfl) (sm_o2 h),
    fr_o3 (hC.on rfl) (hM.on rfl) (sm_o3 h),
    fr_o4 (hC.on rfl) (hM.on rfl) (sm_o4 h),
    fr_o5 (hC.on rfl) (hM.on rfl) (sm_o5 h),
    fr_o6  (hM.on rfl) (sm_o6 h),
    fr_g1 (hC.on rfl) (hM.on rfl) (sm_g1 h),
    fr_d1 (hC.on rfl) (hM.on rfl) (sm_d1 h),
    fr_t1 (hC.on rfl) (hM.on rfl) (sm_t1 h),
    fr_x1 hCt hMt (sm_x1 h),
    fr_a1 (hC.on rfl) (hM.on rfl) (sm_a1 h),
    fr_a2 (hC.on rfl) (hM.on rfl) (sm_a2 h),
    gp,
    fr_p2 (hC.on rfl) (hM.on rfl) (sm_p2 h)⟩
    by_cases hm : a2 = -1
    · subst hm
      rw [if_pos rfl, if_pos rfl, if_neg (by decide)]
      simp only [bE_s]
      exact key _ _ (Or.inl ⟨rfl, rfl⟩)
    · rw [if_neg hm, if_neg hm]
      rcases st_c h a2 with ⟨s, hs, -, rfl, d1, d2⟩ | ⟨d1, d2⟩
      · rw [d1, d2]
        simp only [bd_s, oc_S]
        rw [if_neg one_ne, if_pos (s_f s (by omega)).2.2]
        simp only [bE_s]
        exact key _ _ (Or.inr ⟨s, hs, rfl, rfl⟩)
      · rw [d1, d2]
        simp only [bd_s, oc_N]
        exact QA_same h rfl rfl
  · rw [e1, e2]
    exact QA_same h rfl rfl
theorem hr_l {q : Nat} (hq : q < 6) (C0 : Mem) : ∃ C1, fX6_holdRow_l17 (nI q) FU (0 : Int32) C0 = some ((), C1) ∧ EqOff [3800] C0 C1 ∧ ∀ j, mgL C1 3800 0 j = if 60 * q ≤ j ∧ j < 60 * q + 60 then 0 else mgL C0 3800 0 j := by
  have H := lpR (fun n i (C1 : Mem) => fX6_holdRow_l17 (nI q) n (nI i) C1) (fun r => EqOff [3800] C0 r.2 ∧ ∀ j, mgL r.2 3800 0 j = if 60 * q ≤ j ∧ j < 60 * q + 60 then 0 else mgL C0 3800 0 j) 60 (fun i C1 => EqOff [3800] C0 C1 ∧ ∀ j, mgL C1 3800 0 j = if 60 * q ≤ j ∧ j < 60 * q + i then 0 else mgL C0 3800 0 j)
    (fun n C1 hI => by
      simp only [fX6_holdRow_l17, fX6_holdRow_b17]
      rw [if_pos (show (60 : Int32) ≤ nI 60 from nI_le (a := 60) (by omega) (by omega))]
      exact Rt_s hI)
    (fun n i C1 hi hI k => by
      simp only [fX6_holdRow_l17, fX6_holdRow_b17, nm_q]
      obtain ⟨c1, -, c3⟩ := cel hq hi
      rw [if_neg (show ¬ (60 : Int32) ≤ nI i from nI_ge (b := 60) (by omega) (by omega)), c1, ix_n c3 (by omega), nI_clamp (by omega), nI_1]
      refine k _ ⟨hI.1.L rfl, fun j => ?_⟩
      simp only [mgI_I, mgL_L, mgR_R, mgI_L, mgI_R, mgL_I, mgL_R, mgR_I, mgR_L, Nat.reduceEqDiff, false_and, and_false, true_and, and_true, ↓reduceIte]
      rw [hI.2 j]
      by_cases e : j = 60 * q + i
      · rw [if_pos e, if_pos (by omega)]
      · rw [if_neg e]
        by_cases e2 : 60 * q ≤ j ∧ j < 60 * q + i
        · rw [if_pos e2, if_pos (by omega)]
        · rw [if_neg e2, if_neg (by omega)])
    FU 0 C0 (Nat.zero_le _) ⟨EqOff.refl, fun j => by rw [if_neg (by omega)]⟩ (FU_lt (by omega))
  obtain ⟨r, e, h⟩ := H
  exact ⟨r.2, e, h⟩
theorem mr_l {q : Nat} (hq : q < 6) (C0 : Mem) : ∃ C1, fX12_row_l54 (nI q) FU (nI (60 * q)) C0 = some (1, C1) ∧ EqOff [9100] C0 C1 ∧ ∀ j, mgL C1 9100 0 j = if 60 * q ≤ j ∧ j < 60 * q + 60 then 0 else mgL C0 9100 0 j := by
  have H := lpR (fun n i (C1 : Mem) => fX12_row_l54 (nI q) n (nI i) C1) (fun r => r.1 = 1 ∧ EqOff [9100] C0 r.2 ∧ ∀ j, mgL r.2 9100 0 j = if 60 * q ≤ j ∧ j < 60 * q + 60 then 0 else mgL C0 9100 0 j) (60 * q + 60) (fun i C1 => 60 * q ≤ i ∧ EqOff [9100] C0 C1 ∧ ∀ j, mgL C1 9100 0 j = if 60 * q ≤ j ∧ j < i then 0 else mgL C0 9100 0 j)
    (fun n C1 hI => by
      simp only [fX12_row_l54, fX12_row_b54]
      rw [show (60 : Int32) * nI q + (60 : Int32) = nI (60 * q + 60) by rw [show (60 : Int32) = nI 60 from rfl, pk_mul, nI_add], if_pos (nI_le (Nat.le_refl _) (by omega))]
      exact Rt_s ⟨rfl, hI.2⟩)
    (fun n i C1 hi hI k => by
      simp only [fX12_row_l54, fX12_row_b54, nm_q]
      rw [show (60 : Int32) * nI q + (60 : Int32) = nI (60 * q + 60) by rw [show (60 : Int32) = nI 60 from rfl, pk_mul, nI_add], if_neg (nI_ge (by omega) (by omega)), ix_n (show i < 360 by omega) (by omega), nI_clamp (by omega), nI_1]
      refine k _ ⟨by omega, hI.2.1.L rfl, fun j => ?_⟩
      simp only [mgI_I, mgL_L, mgR_R, mgI_L, mgI_R, mgL_I, mgL_R, mgR_I, mgR_L, Nat.reduceEqDiff, false_and, and_false, true_and, and_true, ↓reduceIte]
      rw [hI.2.2 j]
      by_cases e : j = i
      · rw [if_pos e, if_pos (by omega)]
      · rw [if_neg e]
        by_cases e2 : 60 * q ≤ j ∧ j < i
        · rw [if_pos e2, if_pos (by omega)]
        · rw [if_neg e2, if_neg (by omega)])
    FU (60 * q) C0 (by omega) ⟨Nat.le_refl _, EqOff.refl, fun j => by rw [if_neg (by omega)]⟩ (by have := FU_lt (N := 1000) (by omega); omega)
  obtain ⟨r, e, h1, h⟩ := H
  refine ⟨r.2, ?_, h⟩
  rw [← h1]
  exact e
