/-! stone, line, citings -/
def QB (x : Option ((Int32 × Nat × Nat) × Mem)) (y : Option (Int32 × Mem)) : Prop := ∃ (r : Int32) (C' : Mem) (nS' nL' : Nat) (M' : Mem), x = some ((r, nS', nL'), C') ∧ y = some (r, M') ∧ Sim C' M' nS' nL'
theorem QB_same {C M : Mem} {nS nL : Nat} (h : Sim C M nS nL) {x : Option ((Int32 × Nat × Nat) × Mem)} {y : Option (Int32 × Mem)} {r : Int32} (hx : x = some ((r, nS, nL), C)) (hy : y = some (r, M)) : QB x y := ⟨r, C, nS, nL, M, hx, hy, h⟩
theorem six_c (x : Int32) : (fX12_in x (0 : Int32) (5 : Int32) = 0 ∧ x ≠ 0 ∧ x ≠ 1 ∧ x ≠ 2 ∧ x ≠ 3 ∧ x ≠ 4 ∧ x ≠ 5) ∨ (fX12_in x (0 : Int32) (5 : Int32) = 1 ∧ ∃ k, k ≤ 5 ∧ x = nI k) := by
  by_cases h1 : x < 0
  · refine Or.inl ⟨in_lo h1, ?_, ?_, ?_, ?_, ?_, ?_⟩ <;> (rintro rfl; exact absurd h1 (by decide))
  · by_cases h2 : (5 : Int32) < x
    · refine Or.inl ⟨in_hi h2, ?_, ?_, ?_, ?_, ?_, ?_⟩ <;> (rintro rfl; exact absurd h2 (by decide))
    · refine Or.inr ⟨by unfold fX12_in; rw [if_neg h1, if_neg h2], ?_⟩
      obtain ⟨k, hk, rfl⟩ := nI_of h1
      exact ⟨k, Nat.le_of_not_lt (fun w => h2 (nI_lt w hk)), rfl⟩
theorem res_in (x : Int32) : fX12_in x (-999 : Int32) (999 : Int32) = fX11_isResult x := rfl
theorem in01 (x a b : Int32) : fX12_in x a b = 0 ∨ fX12_in x a b = 1 := by
  unfold fX12_in
  by_cases h : x < a
  · exact Or.inl (if_pos h)
  · rw [if_neg h]
    by_cases h2 : b < x
    · exact Or.inl (if_pos h2)
    · exact Or.inr (if_neg h2)
theorem in1 {x : Int32} {a b : Nat} (h : fX12_in x (nI a) (nI b) = 1) (hb : b < 2 ^ 31) (ha : a < 2 ^ 31) : ∃ n, a ≤ n ∧ n ≤ b ∧ x = nI n := by
  unfold fX12_in at h
  by_cases h1 : x < nI a
  · rw [if_pos h1] at h; exact absurd h.symm one_ne
  · rw [if_neg h1] at h
    by_cases h2 : nI b < x
    · rw [if_pos h2] at h; exact absurd h.symm one_ne
    · have h3 : ¬ x < 0 := fun w => h1 (Int32.lt_of_lt_of_le w (nI_le (a := 0) (b := a) (by omega) (by omega)))
      obtain ⟨n, hn, rfl⟩ := nI_of h3
      exact ⟨n, Nat.le_of_not_lt (fun w => h1 (nI_lt w ha)), Nat.le_of_not_lt (fun w => h2 (nI_lt w hn)), rfl⟩
theorem dv7 (x : Int32) (h : ¬ x < 0) : ((7 : Int32) < x / (100 : Int32)) ↔ ((799 : Int32) < x) := by
  obtain ⟨n, hn, rfl⟩ := nI_of h
  rw [show (100 : Int32) = nI 100 from rfl, pk_div hn (by omega) (by omega), show (7 : Int32) = nI 7 from rfl, show (799 : Int32) = nI 799 from rfl, nI_ltI (by omega) (by omega), nI_ltI (by omega) hn]
  omega
theorem mc_q (x1 x2 x3 : Int32) : (fX11_mayCome x1 x2 x3 = 0 ∧ (fX12_in x1 (0 : Int32) (5 : Int32) = 0 ∨ (fX12_in x1 (0 : Int32) (5 : Int32) = 1 ∧ fX12_isTold x1 x2 x3 = 0))) ∨ (fX11_mayCome x1 x2 x3 = 1 ∧ fX12_in x1 (0 : Int32) (5 : Int32) = 1 ∧ fX12_isTold x1 x2 x3 = 1 ∧ ∃ k, k ≤ 5 ∧ x1 = nI k ∧ (k = 1 → ∃ b, b ≤ 999 ∧ x3 = nI b)) := by
  rcases six_c x1 with ⟨e, n0, n1, n2, n3, n4, n5⟩ | ⟨e, k, hk, rfl⟩
  · refine Or.inl ⟨?_, Or.inl e⟩
    unfold fX11_mayCome
    rw [if_neg n1, if_neg n2, if_neg n3, if_neg n4, if_neg n5, if_neg n0, if_neg n2, if_neg n4]
  · have hk2 : k = 0 ∨ k = 1 ∨ k = 2 ∨ k = 3 ∨ k = 4 ∨ k = 5 := by omega
    rcases hk2 with rfl | rfl | rfl | rfl | rfl | rfl
    · exact Or.inr ⟨rfl, e, rfl, 0, by omega, rfl, fun w => absurd w (by omega)⟩
    · unfold fX11_mayCome fX12_isTold
      rw [if_pos (show nI 1 = 1 from rfl), if_pos (show nI 1 = 1 from rfl), res_in]
      simp only [nm_u]
      rcases in01 x2 (-999) 999 with g | g
      · rw [res_in] at g
        rw [g]
        exact Or.inl ⟨rfl, Or.inr ⟨e, rfl⟩⟩
      · rw [res_in] at g
        rw [g, if_neg one_ne, if_neg one_ne]
        rcases in01 x3 1 999 with g2 | g2
        · refine Or.inl ⟨?_, Or.inr ⟨e, by rw [g2]; rfl⟩⟩
          exact g2
        · refine Or.inr ⟨g2, e, by rw [g2]; rfl, 1, by omega, rfl, fun _ => ?_⟩
          obtain ⟨n, h1, h2, h3⟩ := in1 (a := 1) (b := 999) g2 (by omega) (by omega)
          exact ⟨n, h2, h3⟩
    · exact Or.inr ⟨rfl, e, rfl, 2, by omega, rfl, fun w => absurd w (by omega)⟩
    · unfold fX11_mayCome fX12_isTold
      rw [if_neg (show ¬ nI 3 = 1 by decide), if_neg (show ¬ nI 3 = 2 by decide), if_pos (show nI 3 = 3 from rfl), if_neg (show ¬ nI 3 = 1 by decide), if_pos (show nI 3 = 3 from rfl), res_in]
      simp only [nm_u]
      rcases in01 x2 (-999) 999 with g | g
      · rw [res_in] at g
        rw [g]
        exact Or.inl ⟨rfl, Or.inr ⟨e, rfl⟩⟩
      · rw [res_in] at g
        rw [g, if_neg one_ne, if_neg one_ne]
        by_cases h1 : x3 < 0
        · rw [if_pos h1, if_pos h1]
          exact Or.inl ⟨rfl, Or.inr ⟨e, rfl⟩⟩
        · rw [if_neg h1, if_neg h1]
          by_cases h2 : (799 : Int32) < x3
          · rw [if_pos h2, if_pos ((dv7 x3 h1).mpr h2)]
            exact Or.inl ⟨rfl, Or.inr ⟨e, rfl⟩⟩
          · rw [if_neg h2, if_neg (fun w => h2 ((dv7 x3 h1).mp w))]
            exact Or.inr ⟨rfl, e, rfl, 3, by omega, rfl, fun w => absurd w (by omega)⟩
    · exact Or.inr ⟨rfl, e, rfl, 4, by omega, rfl, fun w => absurd w (by omega)⟩
    · unfold fX11_mayCome fX12_isTold
      rw [if_neg (show ¬ nI 5 = 1 by decide), if_neg (show ¬ nI 5 = 2 by decide), if_neg (show ¬ nI 5 = 3 by decide), if_neg (show ¬ nI 5 = 4 by decide), if_pos (show nI 5 = 5 from rfl), if_neg (show ¬ nI 5 = 1 by decide), if_neg (show ¬ nI 5 = 3 by decide), if_pos (show nI 5 = 5 from rfl)]
      simp only [nm_u]
      rcases in01 x2 1 9 with g | g
      · exact Or.inl ⟨g, Or.inr ⟨e, by rw [g]; rfl⟩⟩
      · exact Or.inr ⟨g, e, by rw [g]; rfl, 5, by omega, rfl, fun w => absurd w (by omega)⟩
theorem nI_sub1 (n : Nat) : nI (n + 1) - (1 : Int32) = nI n := pk_sub (a := n + 1) (b := 1) (by omega)
set_option maxHeartbeats 1000000 in
theorem qs_stone {C M : Mem} {nS nL : Nat} (h : Sim C M nS nL) (a1 a2 a3 : Int32) : QB (fX11_stone nS nL a1 a2 a3 C) (fX12_stone a1 a2 a3 M) := by
  have hb : nS ≤ 64 ∧ nL ≤ 200 := sm_b1 h
  have m1 := (sm_c2 h).1
  have c1 := (sm_c1 h).1
  unfold fX11_stone fX12_stone
  simp only [nm_u]
  rcases mc_q a1 a2 a3 with ⟨e1, e2 | ⟨e2, e3⟩⟩ | ⟨e1, e2, e3, k, hk, rfl, hv⟩
  · rw [e1, e2]
    exact QB_same h rfl rfl
  · rw [e1, e2, e3, if_neg one_ne]
    exact QB_same h rfl rfl
  · rw [e1, e2, e3, if_neg one_ne, if_neg one_ne, if_neg one_ne, c1]
    by_cases hn : nS < 64
    · rw [if_pos (show nI nS < 64 from nI_lt (b := 64) hn (by omega)), m1, if_neg (show ¬ nI nS = 64 from fun w => by have := (nI_eq (a := nS) (b := 64) (by omega) (by omega)).mp w; omega)]
      have hA : fX5_addStone nS nL (nI k) a2 a3 C = some ((nI nS, nS + 1, nL), adS1 C nS (nI k) (mgI M 1201 0 0) a2 a3) := by
        unfold fX5_addStone
        simp only [nm_u]
        rw [c1, ix_n hn (by omega), nI_clamp (by omega), sm_n2 h]
        have e502 : ∀ n k mo a b x, mgI (msR (mNS C nS n k mo a b) 3200 0 nS x) 502 0 0 = nI nS := fun n k mo a b x => by
          rw [gI_R]
          show (if 0 = nS ∧ 502 / 100 = 8 then _ else if 0 = nS ∧ 502 = 4000 then 0 else C.1 502 0 0) = _
          rw [if_neg (fun z => absurd z.2 (by decide)), if_neg (fun z => absurd z.2 (by decide))]
          exact c1
        rw [e502, nI_1]
        rfl
      rw [hA]
      simp only [bE_u]
      refine ⟨nI nS, _, nS + 1, nL, adS2 M nS (nI k) (mgI M 1201 0 0) a2 a3, rfl, ?_, addS_q h hn hk hv⟩
      simp only [uI_I, uL_L, uR_R, uI_L, uI_R, uL_I, uL_R, uR_I, uR_L, Nat.reduceEqDiff, false_and, and_false, true_and, and_true, ↓reduceIte, m1, ix_n hn (show 64 < 2 ^ 31 by omega), nI_clamp (show nS < 2 ^ 31 by omega), nI_1, nI_sub1]
      rfl
    · have : nS = 64 := by omega
      subst this
      rw [if_neg (show ¬ nI 64 < 64 by decide), m1, if_pos (show nI 64 = 64 from rfl)]
      exact QB_same h rfl rfl
theorem cl_l (M : Mem) (x1 x2 : Int32) {nL : Nat} (hn : nL ≤ 200) (hm : mgI M 1212 0 0 = nI nL) : ∀ (m i : Nat), i ≤ nL → nL < m + i → (fX12_canLine_l33 M x1 x2 m (nI i) = some 0 ∧ ∃ l, i ≤ l ∧ l < nL ∧ mgI M 5900 0 l = x1 ∧ mgI M 6000 0 l = x2) ∨ (fX12_canLine_l33 M x1 x2 m (nI i) = some 1 ∧ ¬ ∃ l, i ≤ l ∧ l < nL ∧ mgI M 5900 0 l = x1 ∧ mgI M 6000 0 l = x2)
  | 0, i, h1, h2 => absurd h2 (by omega)
  | m + 1, i, h1, h2 => by
    simp only [fX12_canLine_l33, fX12_canLine_b33, nm_u]
    rw [hm]
    rcases Nat.lt_or_ge i nL with h3 | h3
    · rw [if_neg (nI_ge h3 (by omega)), ix_n (show i < 200 by omega) (by omega), ix_n (show i < 200 by omega) (by omega), nI_clamp (by omega), nI_1]
      have ih := cl_l M x1 x2 hn hm m (i + 1) h3 (by omega)
      by_cases e1 : mgI M 5900 0 i = x1 ∧ mgI M 6000 0 i = x2
      · rw [if_pos e1.1, if_pos e1.2]
        exact Or.inl ⟨rfl, i, Nat.le_refl _, h3, e1⟩
      · have hg : (if mgI M 5900 0 i = x1 then (if mgI M 6000 0 i = x2 then some (0 : Int32) else fX12_canLine_l33 M x1 x2 m (nI (i + 1))) else fX12_canLine_l33 M x1 x2 m (nI (i + 1))) = fX12_canLine_l33 M x1 x2 m (nI (i + 1)) := by
          by_cases e2 : mgI M 5900 0 i = x1
          · rw [if_pos e2, if_neg (fun w => e1 ⟨e2, w⟩)]
          · rw [if_neg e2]
        rw [hg]
        rcases ih with ⟨g, l, g1, g2⟩ | ⟨g, g1⟩
        · exact Or.inl ⟨g, l, by omega, g2⟩
        · refine Or.inr ⟨g, ?_⟩
          rintro ⟨l, w1, w2, w3⟩
          rcases Nat.lt_or_ge i l with w4 | w4
          · exact g1 ⟨l, w4, w2, w3⟩
          · have : l = i := by omega
            subst this
            exact e1 w3
    · rw [if_pos (nI_le h3 (by omega))]
      exact Or.inr ⟨rfl, fun ⟨l, w1, w2, _⟩ => by omega⟩
theorem mst_q {C M : Mem} {nS nL : Nat} (h : Sim C M nS nL) {s : Nat} (hs : s < nS) (x : Int32) : (∃ o, o < s ∧ x = nI o ∧ fX5_mayStand (some s) x C = some 1 ∧ fX12_canLine (nI s) x M = some 1) ∨ (fX5_mayStand (some s) x C = some 0 ∧ fX12_canLine (nI s) x M = some 0) := by
  have hb : nS ≤ 64 ∧ nL ≤ 200 := sm_b1 h
  have hst : fX12_isStone (nI s) M = 1 := by
    rcases st_c h (nI s) with ⟨t, -, -, -, -, e⟩ | ⟨e1, e2⟩
    · exact e
    · exfalso
      unfold fX5_stoneAt at e1
      rw [if_neg (nI_pos (by omega)), (sm_c1 h).1, if_neg (nI_ge hs (by omega)), ix_n (by omega) (by omega), nI_clamp (by omega)] at e1
      simp only [nm_u] at e1
      rw [sm_r1 h s hs] at e1
      exact absurd e1 (by simp)
  unfold fX5_mayStand fX12_canLine
  simp only [nm_u, oc_SU]
  rw [hst, if_neg one_ne, ix_n (by omega) (by omega), nI_clamp (by omega), sm_sK h s hs, sm_s0 h s hs]
  by_cases e1 : mgI M 5000 0 s = 1
  · rw [if_pos e1, if_pos e1]
    exact Or.inr ⟨rfl, rfl⟩
  · rw [if_neg e1, if_neg e1]
    by_cases e2 : x < 0
    · rw [if_pos e2, in_lo e2]
      exact Or.inr ⟨rfl, rfl⟩
    · rw [if_neg e2]
      obtain ⟨o, ho, rfl⟩ := nI_of e2
      rcases Nat.lt_or_ge o s with e3 | e3
      · rw [if_neg (nI_ge e3 (by omega))]
        have e4 : fX12_in (nI o) (0 : Int32) (nI s - (1 : Int32)) = 1 := by
          rw [show nI s - (1 : Int32) = nI (s - 1) from pk_sub (b := 1) (by omega)]
          exact in_ok (lo := 0) (Nat.zero_le _) (by omega) (by omega)
        rw [e4, if_neg one_ne, isIn_q _ (by omega)]
        have h4 := sm_h4 h s o hs (by omega)
        rcases cl_l M (nI s) (nI o) hb.2 (sm_c2 h).2 FU 0 (Nat.zero_le _) (FU_lt (by omega)) with ⟨g, l, -, g2⟩ | ⟨g, g1⟩
        · rw [show fX12_canLine_l33 M (nI s) (nI o) FU (0 : Int32) = some 0 from g, if_pos (h4.mpr ⟨l, g2⟩), if_neg one_ne]
          exact Or.inr ⟨rfl, rfl⟩
        · rw [show fX12_canLine_l33 M (nI s) (nI o) FU (0 : Int32) = some 1 from g, if_neg (show ¬ hB (mgL C 814 s 0) o = true from fun w => by obtain ⟨l, w1⟩ := h4.mp w; exact g1 ⟨l, Nat.zero_le _, w1⟩), if_pos rfl]
          exact Or.inl ⟨o, e3, rfl, rfl, rfl⟩
      · rw [if_pos (nI_le e3 (by omega))]
        have e4 : fX12_in (nI o) (0 : Int32) (nI s - (1 : Int32)) = 0 := by
          refine in_hi ?_
          rw [Int32.lt_iff_toInt_lt, show (1 : Int32) = nI 1 from rfl, sub_toInt (by omega) (by omega), nI_toInt ho]
          omega
        rw [e4]
        exact Or.inr ⟨rfl, rfl⟩
theorem addM_q {M : Mem} {nL : Nat} (m2 : mgI M 1212 0 0 = nI nL) (hl : nL < 200) (st on we se : Int32) : fX12_addLine st on we se M = some (nI nL, adL2 M nL st on we se) := by
  unfold fX12_addLine
  simp only [nm_u, uI_I, uL_L, uR_R, uI_L, uI_R, uL_I, uL_R, uR_I, uR_L, Nat.reduceEqDiff, false_and, and_false, true_and, and_true, ↓reduceIte, m2, ix_n hl (show 200 < 2 ^ 31 by omega), nI_clamp (show nL < 2 ^ 31 by omega), nI_1, nI_sub1]
  rfl
theorem no_st {C M : Mem} {nS nL : Nat} (h : Sim C M nS nL) {a1 : Int32} (e : fX12_isStone a1 M = 0) (x : Int32) : fX12_canLine a1 x M = some 0 := by
  unfold fX12_canLine
  simp only [nm_u]
  rw [e]
  rfl
set_option maxHeartbeats 1000000 in
theorem qs_line {C M : Mem} {nS nL : Nat} (h : Sim C M nS nL) (a1 a2 a3 : Int32) : QB (fX11_line nS nL a1 a2 a3 C) (fX12_line a1 a2 a3 M) := by
  have hb : nS ≤ 64 ∧ nL ≤ 200 := sm_b1 h
  unfold fX11_line fX12_line
  rcases st_c h a1 with ⟨s, hs, -, rfl, e1, -⟩ | ⟨e1, e2⟩
  · rw [e1]
    simp only [bd_u, oc_SU]
    rcases mst_q h hs a2 with ⟨o, ho, rfl, g1, g2⟩ | ⟨g1, g2⟩
    · rw [g1, g2]
      simp only [bd_u, nm_u, if_neg one_ne]
      by_cases e3 : a3 < 0
      · rw [if_neg (fun w => absurd e3 (Int32.not_lt.mpr w)), if_pos e3]
        exact QB_same h rfl rfl
      · rw [if_pos (Int32.not_lt.mp e3), if_neg e3]
        obtain ⟨n, hn, rfl⟩ := nI_of e3
        rw [show (100 : Int32) = nI 100 from rfl, pk_div hn (by omega) (by omega), pk_mul, pk_sub (by omega)]
        generalize n - n / 100 * 100 = w
        have hE : n / 100 < 2 ^ 31 := by omega
        generalize n / 100 = e at hE ⊢
        have i1 : fX11_isSense (nI e) = fX12_in (nI e) 0 2 := rfl
        have i2 : fX11_isWeight (nI w) = fX12_in (nI w) 1 99 := rfl
        rw [i1, i2]
        rcases in01 (nI w) 1 99 with w1 | w1
        · rw [w1, if_pos rfl, if_pos rfl, ite_self]
          exact QB_same h rfl rfl
        · rw [w1, if_neg one_ne, if_neg one_ne]
          rcases in01 (nI e) 0 2 with w2 | w2
          · have w3 : ¬ nI e ≤ (2 : Int32) := fun w3 => by
              unfold fX12_in at w2
              by_cases z1 : nI e < 0
              · exact nI_pos hE z1
              · rw [if_neg z1, if_neg (Int32.not_lt.mpr w3)] at w2
                exact one_ne w2
            rw [w2, if_pos rfl, if_neg w3]
            exact QB_same h rfl rfl
          · obtain ⟨e', x1, x2, x3⟩ := in1 (a := 0) (b := 2) w2 (by omega) (by omega)
            obtain ⟨w', y1, y2, y3⟩ := in1 (a := 1) (b := 99) w1 (by omega) (by omega)
            rw [w2, if_neg one_ne, x3, y3, if_pos (show nI e' ≤ 2 from nI_le (b := 2) x2 (by omega)), (sm_c1 h).2, (sm_c2 h).2]
            by_cases hl : nL < 200
            · rw [if_pos (show nI nL < 200 from nI_lt (b := 200) hl (by omega)), if_neg (show ¬ nI nL = 200 from fun w => by have := (nI_eq (a := nL) (b := 200) (by omega) (by omega)).mp w; omega)]
              obtain ⟨C', z1, z2, -⟩ := addL_q h hl hs ho y1 y2 x2
              rw [z1, addM_q (sm_c2 h).2 hl]
              simp only [bE_u]
              exact ⟨_, _, _, _, _, rfl, rfl, z2⟩
            · have : nL = 200 := by omega
              subst this
              rw [if_neg (show ¬ nI 200 < 200 by decide), if_pos (show nI 200 = 200 from rfl)]
              exact QB_same h rfl rfl
    · rw [g1, g2]
      simp only [bd_u]
      exact QB_same h rfl rfl
  · rw [e1, no_st h e2]
    simp only [bd_u, oc_NU]
    exact QB_same h rfl rfl
