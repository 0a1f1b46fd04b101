/-! hangs, hung -/
theorem hB_oT {l : List Nat} {m : Nat} (h : ∀ j, j < l.length → l.getD j 0 < 64) : ∀ k, k ≤ l.length → ∀ i, (hB (oT l m k) i = true ↔ ∃ j, j < k ∧ m.testBit j = true ∧ l.getD j 0 = i)
  | 0, _, i => by
    show hB 0 i = true ↔ _
    rw [hB_0]
    exact ⟨fun z => absurd z (by decide), fun ⟨j, hj, _⟩ => absurd hj (by omega)⟩
  | k + 1, hk, i => by
    have ih := hB_oT (m := m) h k (by omega) i
    show hB (if m.testBit k = true then oT l m k ||| fX11_bit (nI (l.getD k 0)) else oT l m k) i = true ↔ _
    by_cases e : m.testBit k = true
    · rw [if_pos e, hB_or, hB_bit (h k (by omega)), Bool.or_eq_true, ih, decide_eq_true_iff]
      constructor
      · rintro (⟨j, h1, h2, h3⟩ | h1)
        · exact ⟨j, by omega, h2, h3⟩
        · exact ⟨k, by omega, e, h1.symm⟩
      · rintro ⟨j, h1, h2, h3⟩
        rcases Nat.lt_or_ge j k with h4 | h4
        · exact Or.inl ⟨j, h4, h2, h3⟩
        · have : j = k := by omega
          subst this
          exact Or.inr h3.symm
    · rw [if_neg e, ih]
      constructor
      · rintro ⟨j, h1, h2, h3⟩
        exact ⟨j, by omega, h2, h3⟩
      · rintro ⟨j, h1, h2, h3⟩
        rcases Nat.lt_or_ge j k with h4 | h4
        · exact ⟨j, h4, h2, h3⟩
        · have : j = k := by omega
          subst this
          exact absurd h2 e
theorem nn_63 {x : Int64} (h : hB x 63 = false) : ¬ x < 0 := by
  rw [Int64.lt_iff_toInt_lt]
  intro z
  have e : x.toBitVec.msb = decide (x.toBitVec.toInt < 0) := BitVec.msb_eq_toInt
  rw [BitVec.msb_eq_getLsbD_last] at e
  have e2 : x.toBitVec.getLsbD (64 - 1) = false := h
  rw [e2] at e
  have : x.toBitVec.toInt < 0 := z
  rw [decide_eq_true this] at e
  exact absurd e (by decide)
theorem oT_ok {q : Nat → Bool} {s b : Nat} (hs : s < 64) (h1 : 1 ≤ b) (h2 : b < 2 ^ (gl q s).length) : ¬ oT (gl q s) b (gl q s).length = 0 ∧ ¬ oT (gl q s) b (gl q s).length < 0 := by
  have hlt : ∀ j, j < (gl q s).length → (gl q s).getD j 0 < s := fun j hj => by
    rw [List.getD_eq_getElem?_getD, List.getElem?_eq_getElem hj]
    exact gl_lt q s _ (List.getElem_mem hj)
  have hx := hB_oT (l := gl q s) (m := b) (fun j hj => by have := hlt j hj; omega) (gl q s).length (Nat.le_refl _)
  constructor
  · intro e
    obtain ⟨i, hi⟩ := Nat.exists_testBit_of_ne_zero (x := b) (by omega)
    have hil : i < (gl q s).length := by
      apply Classical.byContradiction
      intro w
      rw [Nat.testBit_lt_two_pow (Nat.lt_of_lt_of_le h2 (Nat.pow_le_pow_right (by omega) (Nat.le_of_not_lt w)))] at hi
      exact absurd hi (by decide)
    have := (hx ((gl q s).getD i 0)).mpr ⟨i, hil, hi, rfl⟩
    rw [e, hB_0] at this
    exact absurd this (by decide)
  · refine nn_63 ?_
    cases e : hB (oT (gl q s) b (gl q s).length) 63
    · rfl
    · obtain ⟨j, j1, j2, j3⟩ := (hx 63).mp e
      have := hlt j j1
      omega
theorem fh_q {C M : Mem} {nS nL : Nat} (h : Sim C M nS nL) {s : Nat} (hs : s < nS) : ∃ gC gM C' M', fX9_fewestThatTurn (some s) C = some (gC, C') ∧ fX12_findHung (nI s) M = some (gM, M') ∧ Sim C' M' nS nL ∧ ((gC = 0 ∧ gM = -2) ∨ (gC = gM ∧ ¬ gM = 0 ∧ ¬ gM < 0)) := by
  have hb : nS ≤ 64 ∧ nL ≤ 200 := sm_b1 h
  obtain ⟨C1, a1, a2, a3⟩ := gf_C h hs
  have hC1 : Sim C1 M nS nL := h.fr (FrC.of (a2.wide rfl)) FrM.refl
  obtain ⟨C2, M2', b1, -, -, b4, -⟩ := sw_q hC1 hs 0
  have hC2 : Sim C2 M nS nL := hC1.fr (frW b4) FrM.refl
  have hg2 : gAt (gl (hq C M s) s) (mgI C2 4300 0) := by rw [(b4.on (K := [4300]) rfl 4300 (by decide)).1]; exact a3
  obtain ⟨C3, c1, c2⟩ := hu_C h hC2 hs (gl_8 _ _) hg2
  have hC3 : Sim C3 M nS nL := hC2.fr (frW c2) FrM.refl
  obtain ⟨M5, d1, hS⟩ := fs_q h
  obtain ⟨M6, e1, e2, e3⟩ := gf_M h hS.w hs
  have hM5 : Sim C M5 nS nL := h.fr FrC.refl (FrM.of (hS.1.wide rfl))
  have hM6 : Sim C M6 nS nL := hM5.fr FrC.refl (FrM.of (e2.wide rfl))
  obtain ⟨C7, M7, -, f2, f3, -, f5⟩ := sw_q hM6 hs 0
  have hM7 : Sim C M7 nS nL := hM6.fr FrC.refl (frF f5)
  have hg7 : gAt (gl (hq C M s) s) (mgI M7 7500 0) := by rw [(f5.on (K := [7500]) rfl 7500 (by decide)).1]; exact e3
  obtain ⟨M8, g1, g2⟩ := hu_M h hM7 hs (gl_8 _ _) hg7
  refine ⟨_, _, C3, M8, Eq.trans ?_ c1, Eq.trans ?_ g1, ?_, ?_⟩
  · unfold fX9_fewestThatTurn
    rw [a1]
    simp only [bE_u]
    rw [b1, YT_C h hC1 hs]
    simp only [bE_u]
  · unfold fX12_findHung
    rw [d1]
    simp only [bE_u]
    rw [e1, f2]
    simp only [bE_u]
    rw [f3]
    simp only [bd_u]
  · exact ((hC3.fr FrC.refl (FrM.of (hS.1.wide rfl))).fr FrC.refl (FrM.of (e2.wide rfl))).fr FrC.refl ((frF f5).trans (frF g2))
  · cases hbs : bst (hG C s (gl (hq C M s) s)) (2 ^ (gl (hq C M s) s).length) with
    | none => exact Or.inl ⟨rfl, rfl⟩
    | some b =>
      obtain ⟨b1, b2, -⟩ := bst_s hbs
      exact Or.inr ⟨rfl, oT_ok (by omega) b1 b2⟩
theorem qs_hangs {C M : Mem} {nS nL : Nat} (h : Sim C M nS nL) (a1 : Int32) : QA nS nL (fX11_hangs a1 C) (fX12_hangs a1 M) := by
  unfold fX11_hangs fX12_hangs
  rcases st_c h a1 with ⟨s, hs, hb, rfl, e1, e2⟩ | ⟨e1, e2⟩
  · rw [e1, e2]
    simp only [nm_u, bd_u, oc_SU, ix_n (show s < 64 by omega) (show 64 < 2 ^ 31 by omega), nI_clamp (show s < 2 ^ 31 by omega)]
    rw [if_neg one_ne, sm_sK h s hs]
    by_cases hk : mgI M 5000 0 s = 3
    · rw [if_pos hk, if_pos hk]
      obtain ⟨gC, gM, C', M', w1, w2, w3, w4⟩ := fh_q h hs
      rw [w1, w2]
      simp only [bE_u]
      rcases w4 with ⟨rfl, rfl⟩ | ⟨rfl, x1, x2⟩
      · rw [if_pos (show lg_cmp (0 : Int64) 0 = 0 by decide), if_neg (show ¬ 0 ≤ lg_cmp (-2 : Int64) 0 by decide)]
        exact ⟨_, _, _, rfl, rfl, w3⟩
      · rw [if_neg (fun z => x1 ((lg_0 _ _).mp z)), if_pos ((lg_ge _ _).mpr x2), pop_q]
        simp only [bd_u]
        exact ⟨_, _, _, rfl, rfl, w3⟩
    · rw [if_neg hk, if_neg hk]
      exact QA_same h rfl rfl
  · rw [e1, e2]
    exact QA_same h rfl rfl
theorem qs_hung {C M : Mem} {nS nL : Nat} (h : Sim C M nS nL) (a1 : Int32) : ∃ (r : Int64) (C' M' : Mem), fX11_hung a1 C = some (r, C') ∧ fX12_hung a1 M = some (r, M') ∧ Sim C' M' nS nL := by
  unfold fX11_hung fX12_hung
  rcases st_c h a1 with ⟨s, hs, hb, rfl, e1, e2⟩ | ⟨e1, e2⟩
  · rw [e1, e2]
    simp only [nm_u, bd_u, oc_SU, ix_n (show s < 64 by omega) (show 64 < 2 ^ 31 by omega), nI_clamp (show s < 2 ^ 31 by omega)]
    rw [if_neg one_ne, sm_sK h s hs]
    by_cases hk : mgI M 5000 0 s = 3
    · rw [if_pos hk, if_pos hk]
      obtain ⟨gC, gM, C', M', w1, w2, w3, w4⟩ := fh_q h hs
      rw [w1, w2]
      simp only [bE_u]
      rcases w4 with ⟨rfl, rfl⟩ | ⟨rfl, x1, x2⟩
      · rw [if_pos (show lg_cmp (0 : Int64) 0 = 0 by decide)]
        exact ⟨_, _, _, rfl, rfl, w3⟩
      · rw [if_neg (fun z => x1 ((lg_0 _ _).mp z))]
        exact ⟨_, _, _, rfl, rfl, w3⟩
    · rw [if_neg hk, if_neg hk]
      exact ⟨_, _, _, rfl, rfl, h⟩
  · rw [e1, e2]
    exact ⟨_, _, _, rfl, rfl, h⟩
