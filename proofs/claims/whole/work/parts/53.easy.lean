theorem li_0 : (0 : Int32) = nI 0 := rfl
theorem li_1 : (1 : Int32) = nI 1 := rfl
theorem li_2 : (2 : Int32) = nI 2 := rfl
theorem li_3 : (3 : Int32) = nI 3 := rfl
theorem li_4 : (4 : Int32) = nI 4 := rfl
theorem li_5 : (5 : Int32) = nI 5 := rfl
theorem li_6 : (6 : Int32) = nI 6 := rfl
theorem li_9 : (9 : Int32) = nI 9 := rfl
theorem li_10 : (10 : Int32) = nI 10 := rfl
theorem li_19 : (19 : Int32) = nI 19 := rfl
theorem li_20 : (20 : Int32) = nI 20 := rfl
theorem li_24 : (24 : Int32) = nI 24 := rfl
theorem li_40 : (40 : Int32) = nI 40 := rfl
theorem li_60 : (60 : Int32) = nI 60 := rfl
theorem li_64 : (64 : Int32) = nI 64 := rfl
theorem li_99 : (99 : Int32) = nI 99 := rfl
theorem li_100 : (100 : Int32) = nI 100 := rfl
theorem li_120 : (120 : Int32) = nI 120 := rfl
theorem li_200 : (200 : Int32) = nI 200 := rfl
theorem li_999 : (999 : Int32) = nI 999 := rfl
theorem li_1000 : (1000 : Int32) = nI 1000 := rfl
theorem le_t {a b : Nat} (h : a ≤ b) (hb : b < 2 ^ 31) : (nI a ≤ nI b) = True := eq_true (nI_le h hb)
theorem le_f {a b : Nat} (h : b < a) (ha : a < 2 ^ 31) : (nI a ≤ nI b) = False := eq_false (nI_ge h ha)
theorem lt_t {a b : Nat} (h : a < b) (hb : b < 2 ^ 31) : (nI a < nI b) = True := eq_true (nI_lt h hb)
theorem lt_f {a b : Nat} (h : b ≤ a) (ha : a < 2 ^ 31) : (nI a < nI b) = False := eq_false (nI_nlt h ha)
theorem eq_t {a b : Nat} (h : a = b) : (nI a = nI b) = True := eq_true (congrArg nI h)
theorem eq_f {a b : Nat} (h : a ≠ b) (ha : a < 2 ^ 31) (hb : b < 2 ^ 31) : (nI a = nI b) = False := eq_false (fun z => h ((nI_eq ha hb).mp z))
/-- an int within, below or above -/
theorem rg_c (x : Int32) (a b : Nat) (ha : a < 2 ^ 31) (hb : b < 2 ^ 31) : (x < nI a ∧ ¬ nI a ≤ x) ∨ (nI b < x ∧ ¬ x ≤ nI b) ∨ ∃ j, a ≤ j ∧ j ≤ b ∧ x = nI j := by
  by_cases h1 : x < nI a
  · exact Or.inl ⟨h1, Int32.not_le.mpr h1⟩
  · by_cases h2 : nI b < x
    · exact Or.inr (Or.inl ⟨h2, Int32.not_le.mpr h2⟩)
    · have h3 := Int32.not_lt.mp h1
      have h4 := Int32.not_lt.mp h2
      have h0 : ¬ x < 0 := fun z => h1 (Int32.lt_of_lt_of_le z (nI_pos' ha))
      obtain ⟨j, hj, rfl⟩ := nI_of2 (nI_toInt hb) h0 h4
      exact Or.inr (Or.inr ⟨j, (nI_leI ha (by omega)).mp h3, hj, rfl⟩)
theorem st_c {C M : Mem} {nS nL : Nat} (h : Sim C M nS nL) (x : Int32) : (∃ s, s < nS ∧ nS ≤ 64 ∧ x = nI s ∧ fX5_stoneAt x C = some (some s) ∧ fX12_isStone x M = 1) ∨ (fX5_stoneAt x C = some none ∧ fX12_isStone x M = 0) := by
  have hb := (sm_b1 h).1
  have hc := (sm_c1 h).1
  have hm := (sm_c2 h).1
  rcases rg_c x 0 (nS - 1) (by omega) (by omega) with ⟨h1, h2⟩ | ⟨h1, h2⟩ | ⟨s, -, h1, rfl⟩
  · refine Or.inr ⟨?_, ?_⟩
    · unfold fX5_stoneAt
      rw [if_pos (show x < 0 from h1)]
    · unfold fX12_isStone fX12_in
      simp only [nm_q]
      rw [if_pos (show x < 0 from h1)]
  · rcases Nat.eq_zero_or_pos nS with h0 | h0
    · subst h0
      have h3 : nI 0 ≤ x := Int32.le_of_lt h1
      refine Or.inr ⟨?_, ?_⟩
      · unfold fX5_stoneAt
        rw [hc, if_pos h3, ite_self]
      · unfold fX12_isStone fX12_in
        simp only [nm_q]
        rw [hm, if_pos (c := nI 0 - 1 < x) (Int32.lt_of_lt_of_le (by decide) h3), ite_self]
    · have h3 : nI nS ≤ x := by
        have e : nI nS = nI (nS - 1) + 1 := by rw [nI_1]; congr 1; omega
        rw [e]
        have hx := Int32.lt_iff_toInt_lt.mp h1
        rw [nI_toInt (by omega)] at hx
        rw [nI_1]
        refine Int32.le_iff_toInt_le.mpr ?_
        rw [nI_toInt (by omega)]
        omega
      refine Or.inr ⟨?_, ?_⟩
      · unfold fX5_stoneAt
        rw [hc, if_pos h3, ite_self]
      · unfold fX12_isStone fX12_in
        simp only [nm_q]
        rw [hm, show nI nS - (1 : Int32) = nI (nS - 1) from pk_sub (b := 1) (by omega), if_pos h1, ite_self]
  · rcases Nat.eq_zero_or_pos nS with h0 | h0
    · subst h0
      refine Or.inr ⟨?_, ?_⟩
      · unfold fX5_stoneAt
        rw [hc, if_pos (nI_le (by omega) (by omega)), ite_self]
      · unfold fX12_isStone fX12_in
        simp only [nm_q]
        rw [hm, if_pos (c := nI 0 - 1 < nI s) (by rw [show s = 0 by omega]; decide), ite_self]
    · refine Or.inl ⟨s, by omega, hb, rfl, ?_, ?_⟩
      · unfold fX5_stoneAt
        rw [hc, if_neg (nI_pos (by omega)), if_neg (nI_ge (by omega) (by omega)), ix_n (by omega) (by omega), nm_q, nI_clamp (by omega), sm_r1 h s (by omega)]
      · unfold fX12_isStone fX12_in
        simp only [nm_q]
        rw [hm, if_neg (nI_pos (by omega)), show nI nS - (1 : Int32) = nI (nS - 1) from pk_sub (b := 1) (by omega), if_neg (nI_nlt (by omega) (by omega))]
theorem ln_c {C M : Mem} {nS nL : Nat} (h : Sim C M nS nL) (x : Int32) : (∃ s, s < nL ∧ nL ≤ 200 ∧ x = nI s ∧ fX5_lineAt x C = some (some s) ∧ fX12_isLine x M = 1) ∨ (fX5_lineAt x C = some none ∧ fX12_isLine x M = 0) := by
  have hb := (sm_b1 h).2
  have hc := (sm_c1 h).2
  have hm := (sm_c2 h).2
  rcases rg_c x 0 (nL - 1) (by omega) (by omega) with ⟨h1, h2⟩ | ⟨h1, h2⟩ | ⟨s, -, h1, rfl⟩
  · refine Or.inr ⟨?_, ?_⟩
    · unfold fX5_lineAt
      rw [if_pos (show x < 0 from h1)]
    · unfold fX12_isLine fX12_in
      simp only [nm_q]
      rw [if_pos (show x < 0 from h1)]
  · rcases Nat.eq_zero_or_pos nL with h0 | h0
    · subst h0
      have h3 : nI 0 ≤ x := Int32.le_of_lt h1
      refine Or.inr ⟨?_, ?_⟩
      · unfold fX5_lineAt
        rw [hc, if_pos h3, ite_self]
      · unfold fX12_isLine fX12_in
        simp only [nm_q]
        rw [hm, if_pos (c := nI 0 - 1 < x) (Int32.lt_of_lt_of_le (by decide) h3), ite_self]
    · have h3 : nI nL ≤ x := by
        have e : nI nL = nI (nL - 1) + 1 := by rw [nI_1]; congr 1; omega
        rw [e]
        have hx := Int32.lt_iff_toInt_lt.mp h1
        rw [nI_toInt (by omega)] at hx
        rw [nI_1]
        refine Int32.le_iff_toInt_le.mpr ?_
        rw [nI_toInt (by omega)]
        omega
      refine Or.inr ⟨?_, ?_⟩
      · unfold fX5_lineAt
        rw [hc, if_pos h3, ite_self]
      · unfold fX12_isLine fX12_in
        simp only [nm_q]
        rw [hm, show nI nL - (1 : Int32) = nI (nL - 1) from pk_sub (b := 1) (by omega), if_pos h1, ite_self]
  · rcases Nat.eq_zero_or_pos nL with h0 | h0
    · subst h0
      refine Or.inr ⟨?_, ?_⟩
      · unfold fX5_lineAt
        rw [hc, if_pos (nI_le (by omega) (by omega)), ite_self]
      · unfold fX12_isLine fX12_in
        simp only [nm_q]
        rw [hm, if_pos (c := nI 0 - 1 < nI s) (by rw [show s = 0 by omega]; decide), ite_self]
    · refine Or.inl ⟨s, by omega, hb, rfl, ?_, ?_⟩
      · unfold fX5_lineAt
        rw [hc, if_neg (nI_pos (by omega)), if_neg (nI_ge (by omega) (by omega)), ix_n (by omega) (by omega), nm_q, nI_clamp (by omega), sm_r2 h s (by omega)]
      · unfold fX12_isLine fX12_in
        simp only [nm_q]
        rw [hm, if_neg (nI_pos (by omega)), show nI nL - (1 : Int32) = nI (nL - 1) from pk_sub (b := 1) (by omega), if_neg (nI_nlt (by omega) (by omega))]
def QA (nS nL : Nat) (x y : Option (Int32 × Mem)) : Prop := ∃ (r : Int32) (C' M' : Mem), x = some (r, C') ∧ y = some (r, M') ∧ Sim C' M' nS nL
def QP (x y : Option Int32) : Prop := ∃ r, x = some r ∧ y = some r
theorem QA_fr {C M : Mem} {nS nL : Nat} (h : Sim C M nS nL) {x y : Option (Int32 × Mem)} {r : Int32} {C' M' : Mem} (hx : x = some (r, C')) (hy : y = some (r, M')) (fC : FrC C C') (fM : FrM M M') : QA nS nL x y := ⟨r, C', M', hx, hy, h.fr fC fM⟩
theorem QA_same {C M : Mem} {nS nL : Nat} (h : Sim C M nS nL) {x y : Option (Int32 × Mem)} {r : Int32} (hx : x = some (r, C)) (hy : y = some (r, M)) : QA nS nL x y := ⟨r, C, M, hx, hy, h⟩
theorem qs_seed {C M : Mem} {nS nL : Nat} (h : Sim C M nS nL) (a1 : Int32) : QA nS nL (fX11_seed a1 C) (fX12_seed a1 M) := by
  have hC : EqOff [302] C (msI C 302 0 0 a1) := EqOff.refl.I rfl
  have hM : EqOff [1245] M (msI M 1245 0 0 a1) := EqOff.refl.I rfl
  have hCt := hC.txC rfl
  have hMt := hM.txM rfl
  refine ⟨mgI M 1245 0 0, msI C 302 0 0 a1, msI M 1245 0 0 a1, ?_, rfl, ?_⟩
  · show some (mgI C 302 0 0, _) = _
    rw [sm_d1 h]
  · exact ⟨fr_b1 (sm_b1 h),
    fr_c1 (hC.on rfl)  (sm_c1 h),
    fr_c2  (hM.on rfl) (sm_c2 h),
    fr_r1 (hC.on rfl)  (sm_r1 h),
    fr_r2 (hC.on rfl)  (sm_r2 h),
    fr_s0 (hC.on rfl)  (sm_s0 h),
    fr_sK (hC.on rfl) (hM.on rfl) (sm_sK h),
    fr_sM (hC.on rfl) (hM.on rfl) (sm_sM h),
    fr_sA (hC.on rfl) (hM.on rfl) (sm_sA h),
    fr_sB (hC.on rfl) (hM.on rfl) (sm_sB h),
    fr_sI (hC.on rfl) (hM.on rfl) (sm_sI h),
    fr_sW (hC.on rfl) (hM.on rfl) (sm_sW h),
    fr_sP (hC.on rfl) (hM.on rfl) (sm_sP h),
    fr_sH (hC.on rfl) (hM.on rfl) (sm_sH h),
    fr_sT (hC.on rfl) (hM.on rfl) (sm_sT h),
    fr_vK  (hM.on rfl) (sm_vK h),
    fr_vB  (hM.on rfl) (sm_vB h),
    fr_n1  (hM.on rfl) (sm_n1 h),
    fr_n2 (hC.on rfl) (hM.on rfl) (sm_n2 h),
    fr_vM  (hM.on rfl) (sm_vM h),
    fr_vT  (hM.on rfl) (sm_vT h),
    fr_tB (hC.on rfl) (hM.on rfl) (sm_tB h),
    fr_vJ  (hM.on rfl) (sm_vJ h),
    fr_vH  (hM.on rfl) (sm_vH h),
    fr_l0 (hC.on rfl) (hM.on rfl) (sm_l0 h),
    fr_l1 (hC.on rfl) (hM.on rfl) (sm_l1 h),
    fr_l3 (hC.on rfl) (hM.on rfl) (sm_l3 h),
    fr_l4 (hC.on rfl) (hM.on rfl) (sm_l4 h),
    fr_l5 (hC.on rfl) (hM.on rfl) (sm_l5 h),
    fr_vL  (hM.on rfl) (sm_vL h),
    fr_vW  (hM.on rfl) (sm_vW h),
    fr_vE  (hM.on rfl) (sm_vE h),
    fr_vD  (hM.on rfl) (sm_vD h),
    fr_h1 (hC.on rfl) (hM.on rfl) (sm_h1 h),
    fr_h2 (hC.on rfl) (hM.on rfl) (sm_h2 h),
    fr_h3 (hC.on rfl) (hM.on rfl) (sm_h3 h),
    fr_h4 (hC.on rfl) (hM.on rfl) (sm_h4 h),
    fr_h5 (hC.on rfl) (hM.on rfl) (sm_h5 h),
    fr_z1  (hM.on rfl) (sm_z1 h),
    fr_z2  (hM.on rfl) (sm_z2 h),
    fr_z3  (hM.on rfl) (sm_z3 h),
    fr_e1 (hC.on rfl) (hM.on rfl) (sm_e1 h),
    fr_e2  (hM.on rfl) (sm_e2 h),
    fr_e3 (hC.on rfl) (hM.on rfl) (sm_e3 h),
    fr_o1  (hM.on rfl) (sm_o1 h),
    fr_o2 (hC.on rfl) (hM.on rfl) (sm_o2 h),
    fr_o3 (hC.on rfl) (hM.on rfl) (sm_o3 h),
    fr_o4 (hC.on rfl) (hM.on rfl) (sm_o4 h),
    fr_o5 (hC.on rfl) (hM.on rfl) (sm_o5 h),
    fr_o6  (hM.on rfl) (sm_o6 h),
    fr_g1 (hC.on rfl) (hM.on rfl) (sm_g1 h),
    (by show mgI _ 302 0 0 = mgI _ 1245 0 0; rw [gI_s, gI_s]),
    fr_t1 (hC.on rfl) (hM.on rfl) (sm_t1 h),
    fr_x1 hCt hMt (sm_x1 h),
    fr_a1 (hC.on rfl) (hM.on rfl) (sm_a1 h),
    fr_a2 (hC.on rfl) (hM.on rfl) (sm_a2 h),
    fr_p1 (hC.on rfl) (hM.on rfl) (sm_p1 h),
    fr_p2 (hC.on rfl) (hM.on rfl) (sm_p2 h)⟩
theorem qs_count {C M : Mem} {nS nL : Nat} (h : Sim C M nS nL) (a1 : Int32) : fX11_count a1 C = fX12_count a1 M := by
  obtain ⟨d, u, -, hd, -, hd2, -⟩ := sm_g1 h
  obtain ⟨t, -, ht, ht2, -⟩ := sm_t1 h
  unfold fX11_count fX12_count
  rw [(sm_c1 h).1, (sm_c1 h).2, (sm_c2 h).1, (sm_c2 h).2, sm_o2 h, sm_n2 h, ht, ht2, hd, hd2, sm_a1 h]
theorem qs_trace {C M : Mem} {nS nL : Nat} (h : Sim C M nS nL) (a1 : Int32) : QP (fX11_trace a1 C) (fX12_trace a1 M) := by
  unfold fX11_trace fX12_trace QP
  rw [sm_a1 h]
  by_cases h1 : a1 < 0
  · exact ⟨-1, by rw [if_pos h1], by rw [if_pos h1]⟩
  · rw [if_neg h1, if_neg h1]
    by_cases h2 : mgI M 1251 0 0 ≤ a1
    · exact ⟨-1, by rw [if_pos h2], by rw [if_pos h2]⟩
    · rw [if_neg h2, if_neg h2]
      rcases rg_c a1 0 23 (by decide) (by decide) with ⟨h3, -⟩ | ⟨h3, h4⟩ | ⟨j, -, h3, rfl⟩
      · exact absurd h3 h1
      · have h5 : (24 : Int32) ≤ a1 := by
          have hx := Int32.lt_iff_toInt_lt.mp h3
          rw [nI_toInt (by omega)] at hx
          refine Int32.le_iff_toInt_le.mpr ?_
          rw [show (24 : Int32) = nI 24 from rfl, nI_toInt (by omega)]
          omega
        exact ⟨-1, by rw [if_neg (Int32.not_lt.mpr h5)], by rw [if_pos h5]⟩
      · refine ⟨mgI M 8800 0 j, ?_, ?_⟩
        · rw [if_pos (show nI j < 24 from nI_lt (b := 24) (by omega) (by omega)), ix_n (by omega) (by omega), nI_clamp (by omega), sm_a2 h j (by omega)]
        · rw [if_neg (show ¬ (24 : Int32) ≤ nI j from nI_ge (b := 24) (by omega) (by omega)), ix_n (by omega) (by omega), nI_clamp (by omega)]
theorem qs_ofLine {C M : Mem} {nS nL : Nat} (h : Sim C M nS nL) (a1 a2 : Int32) : QP (fX11_ofLine a1 a2 C) (fX12_ofLine a1 a2 M) := by
  unfold fX11_ofLine fX12_ofLine QP
  rcases ln_c h a1 with ⟨l, hl, hb, rfl, e1, e2⟩ | ⟨e1, e2⟩
  · rw [e1, e2]
    simp only [nm_q, bd_s, oc_S, nI_clamp (show l < 2 ^ 31 by omega), ix_n (show l < 200 by omega) (by omega), sm_l0 h l hl, sm_l1 h l hl, sm_l3 h l hl, sm_l4 h l hl, sm_l5 h l hl]
    rw [if_neg (show ¬ (1 : Int32) = 0 by decide)]
    by_cases h0 : a2 = 0
    · rw [if_pos h0]; exact ⟨_, rfl, rfl⟩
    rw [if_neg h0]
    by_cases h0 : a2 = 1
    · rw [if_pos h0]; exact ⟨_, rfl, rfl⟩
    rw [if_neg h0]
    by_cases h0 : a2 = 2
    · rw [if_pos h0]; exact ⟨_, rfl, rfl⟩
    rw [if_neg h0]
    by_cases h0 : a2 = 3
    · rw [if_pos h0]; exact ⟨_, rfl, rfl⟩
    rw [if_neg h0]
    by_cases h0 : a2 = 4
    · rw [if_pos h0]
      by_cases h1 : mgI M 6300 0 l = 0
      · rw [if_pos h1]; exact ⟨_, rfl, rfl⟩
      · rw [if_neg h1]; exact ⟨_, rfl, rfl⟩
    rw [if_neg h0]
    exact ⟨_, rfl, rfl⟩
  · rw [e1, e2]
    exact ⟨-1, rfl, rfl⟩
