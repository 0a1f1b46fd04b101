def bodT : List Nat := [1, 1, 30, 30, 1, 1, 70, 10, 20, 10, 10, 50, 50, 50, 11, 11, 11, 40, 11, 60, 71, 2, 2, 2, 41, 2, 2, 2]
theorem bod_q : ∀ a, a < 4 → ∀ f, f < 7 → fX0_bodyFrom_l4 (nI a) FU (nI f) (0 : Int32) = some (nI (bodT.getD (7 * a + f) 0)) := by decide +kernel
theorem bod_r {a f b : Nat} (ha : a < 4) (hf : f < 7) (hb : bodT.getD (7 * a + f) 0 = b) (M : Mem) : fX0_bodyFrom (nI a) (nI f) M = some (nI b) := by
  unfold fX0_bodyFrom
  rw [bod_q a ha f hf, hb]
/-- both sides in the midst of an act -/
def AJ (C M : Mem) (nS nL k s t : Nat) : Prop := Sim C M nS nL ∧ mgI C 2 0 0 = nI k ∧ mgI C 3 0 0 = nI s ∧ (k = 2 ∨ k = 3 → mgI C 4 0 0 = nI (ctU (fun l => decide (mgI M 5900 0 l = nI s)) nL)) ∧ mgI M 1253 0 0 = nI k ∧ mgI M 1251 0 0 = nI t
theorem bg_q {C M : Mem} {nS nL k s t : Nat} (h : AJ C M nS nL k s t) (ht : t < 1000000) (b : Int32) : ∃ C' M', fX0_begin b C = some ((), C') ∧ fX12_ran b M = some ((), M') ∧ AJ C' M' nS nL k s (t + 1) := by
  obtain ⟨h0, h1, h2, h3, h4, h5⟩ := h
  have c1 : mgI C 1 0 0 = nI t := (sm_a1 h0).trans h5
  unfold fX0_begin fX12_ran
  simp only [nm_u]
  rw [c1, h5]
  by_cases hq : t < 24
  · rw [if_neg (show ¬ (24 : Int32) ≤ nI t from nI_ge (b := 24) hq (by decide)), if_neg (show ¬ (24 : Int32) ≤ nI t from nI_ge (b := 24) hq (by decide)), ix_n hq (by omega), ix_n hq (by omega), nI_clamp (by omega)]
    simp only [uI_I, uL_L, uR_R, uI_L, uI_R, uL_I, uL_R, uR_I, uR_L, Nat.reduceEqDiff, false_and, and_false, true_and, and_true, ↓reduceIte, c1, h5, nI_1]
    refine ⟨_, _, rfl, rfl, ?_⟩
    generalize hC' : msI (msI C 2000 0 t b) 1 0 0 (nI (t + 1)) = C'
    generalize hM' : msI (msI M 8800 0 t b) 1251 0 0 (nI (t + 1)) = M'
    have hC : EqOff [2000, 1] C C' := by subst hC'; exact (EqOff.refl.I rfl).I rfl
    have hM : EqOff [8800, 1251] M M' := by subst hM'; exact (EqOff.refl.I rfl).I rfl
    have hCt := hC.txC rfl
    have hMt := hM.txM rfl
    have n1 : mgI C' 1 0 0 = nI (t + 1) := by subst hC'; simp only [uI_I, uL_L, uR_R, uI_L, uI_R, uL_I, uL_R, uR_I, uR_L, Nat.reduceEqDiff, false_and, and_false, true_and, and_true, ↓reduceIte]
    have n2 : mgI M' 1251 0 0 = nI (t + 1) := by subst hM'; simp only [uI_I, uL_L, uR_R, uI_L, uI_R, uL_I, uL_R, uR_I, uR_L, Nat.reduceEqDiff, false_and, and_false, true_and, and_true, ↓reduceIte]
    have m1 : ∀ j, mgI C' 2000 0 j = if j = t then b else mgI C 2000 0 j := fun j => by subst hC'; simp only [uI_I, uL_L, uR_R, uI_L, uI_R, uL_I, uL_R, uR_I, uR_L, Nat.reduceEqDiff, false_and, and_false, true_and, and_true, ↓reduceIte]
    have m2 : ∀ j, mgI M' 8800 0 j = if j = t then b else mgI M 8800 0 j := fun j => by subst hM'; simp only [uI_I, uL_L, uR_R, uI_L, uI_R, uL_I, uL_R, uR_I, uR_L, Nat.reduceEqDiff, false_and, and_false, true_and, and_true, ↓reduceIte]
    have g2 : f_a2 C' M' nS nL := fun j hj => by
      rw [m1, m2]
      by_cases e : j = t
      · rw [if_pos e, if_pos e]
      · rw [if_neg e, if_neg e]; exact sm_a2 h0 j hj
    have kc := hC.on (K := [2, 3, 4]) rfl
    have km := hM.on (K := [5900, 1253]) rfl
    refine ⟨⟨fr_b1 (sm_b1 h0),
    fr_c1 (hC.on rfl)  (sm_c1 h0),
    fr_c2  (hM.on rfl) (sm_c2 h0),
    fr_r1 (hC.on rfl)  (sm_r1 h0),
    fr_r2 (hC.on rfl)  (sm_r2 h0),
    fr_s0 (hC.on rfl)  (sm_s0 h0),
    fr_sK (hC.on rfl) (hM.on rfl) (sm_sK h0),
    fr_sM (hC.on rfl) (hM.on rfl) (sm_sM h0),
    fr_sA (hC.on rfl) (hM.on rfl) (sm_sA h0),
    fr_sB (hC.on rfl) (hM.on rfl) (sm_sB h0),
    fr_sI (hC.on rfl) (hM.on rfl) (sm_sI h0),
    fr_sW (hC.on rfl) (hM.on rfl) (sm_sW h0),
    fr_sP (hC.on rfl) (hM.on rfl) (sm_sP h0),
    fr_sH (hC.on rfl) (hM.on rfl) (sm_sH h0),
    fr_sT (hC.on rfl) (hM.on rfl) (sm_sT h0),
    fr_vK  (hM.on rfl) (sm_vK h0),
    fr_vB  (hM.on rfl) (sm_vB h0),
    fr_n1  (hM.on rfl) (sm_n1 h0),
    fr_n2 (hC.on rfl) (hM.on rfl) (sm_n2 h0),
    fr_vM  (hM.on rfl) (sm_vM h0),
    fr_vT  (hM.on rfl) (sm_vT h0),
    fr_tB (hC.on rfl) (hM.on rfl) (sm_tB h0),
    fr_vJ  (hM.on rfl) (sm_vJ h0),
    fr_vH  (hM.on rfl) (sm_vH h0),
    fr_l0 (hC.on rfl) (hM.on rfl) (sm_l0 h0),
    fr_l1 (hC.on rfl) (hM.on rfl) (sm_l1 h0),
    fr_l3 (hC.on rfl) (hM.on rfl) (sm_l3 h0),
    fr_l4 (hC.on rfl) (hM.on rfl) (sm_l4 h0),
    fr_l5 (hC.on rfl) (hM.on rfl) (sm_l5 h0),
    fr_vL  (hM.on rfl) (sm_vL h0),
    fr_vW  (hM.on rfl) (sm_vW h0),
    fr_vE  (hM.on rfl) (sm_vE h0),
    fr_vD  (hM.on rfl) (sm_vD h0),
    fr_h1 (hC.on rfl) (hM.on rfl) (sm_h1 h0),
    fr_h2 (hC.on rfl) (hM.on rfl) (sm_h2 h0),
    fr_h3 (hC.on rfl) (hM.on rfl) (sm_h3 h0),
    fr_h4 (hC.on rfl) (hM.on rfl) (sm_h4 h0),
    fr_h5 (hC.on rfl) (hM.on rfl) (sm_h5 h0),
    fr_z1  (hM.on rfl) (sm_z1 h0),
    fr_z2  (hM.on rfl) (sm_z2 h0),
    fr_z3  (hM.on rfl) (sm_z3 h0),
    fr_e1 (hC.on rfl) (hM.on rfl) (sm_e1 h0),
    fr_e2  (hM.on rfl) (sm_e2 h0),
    fr_e3 (hC.on rfl) (hM.on rfl) (sm_e3 h0),
    fr_o1  (hM.on rfl) (sm_o1 h0),
    fr_o2 (hC.on rfl) (hM.on rfl) (sm_o2 h0),
    fr_o3 (hC.on rfl) (hM.on rfl) (sm_o3 h0),
    fr_o4 (hC.on rfl) (hM.on rfl) (sm_o4 h0),
    fr_o5 (hC.on rfl) (hM.on rfl) (sm_o5 h0),
    fr_o6  (hM.on rfl) (sm_o6 h0),
    fr_g1 (hC.on rfl) (hM.on rfl) (sm_g1 h0),
    fr_d1 (hC.on rfl) (hM.on rfl) (sm_d1 h0),
    fr_t1 (hC.on rfl) (hM.on rfl) (sm_t1 h0),
    fr_x1 hCt hMt (sm_x1 h0),
    (by unfold f_a1; rw [n1, n2]),
    g2,
    fr_p1 (hC.on rfl) (hM.on rfl) (sm_p1 h0),
    fr_p2 (hC.on rfl) (hM.on rfl) (sm_p2 h0)⟩, ?_, ?_, ?_, ?_, n2⟩
    · rw [(kc 2 (by decide)).1]; exact h1
    · rw [(kc 3 (by decide)).1]; exact h2
    · intro z; rw [(kc 4 (by decide)).1, (km 5900 (by decide)).1]; exact h3 z
    · rw [(km 1253 (by decide)).1]; exact h4
  · rw [if_pos (show (24 : Int32) ≤ nI t from nI_le (a := 24) (by omega) (by omega)), if_pos (show (24 : Int32) ≤ nI t from nI_le (a := 24) (by omega) (by omega)), nI_1]
    refine ⟨_, _, rfl, rfl, ?_⟩
    generalize hC' : msI C 1 0 0 (nI (t + 1)) = C'
    generalize hM' : msI M 1251 0 0 (nI (t + 1)) = M'
    have hC : EqOff [1] C C' := by subst hC'; exact EqOff.refl.I rfl
    have hM : EqOff [1251] M M' := by subst hM'; exact EqOff.refl.I rfl
    have hCt := hC.txC rfl
    have hMt := hM.txM rfl
    have n1 : mgI C' 1 0 0 = nI (t + 1) := by subst hC'; simp only [uI_I, uL_L, uR_R, uI_L, uI_R, uL_I, uL_R, uR_I, uR_L, Nat.reduceEqDiff, false_and, and_false, true_and, and_true, ↓reduceIte]
    have n2 : mgI M' 1251 0 0 = nI (t + 1) := by subst hM'; simp only [uI_I, uL_L, uR_R, uI_L, uI_R, uL_I, uL_R, uR_I, uR_L, Nat.reduceEqDiff, false_and, and_false, true_and, and_true, ↓reduceIte]
    have kc := hC.on (K := [2, 3, 4]) rfl
    have km := hM.on (K := [5900, 1253]) rfl
    refine ⟨⟨fr_b1 (sm_b1 h0),
    fr_c1 (hC.on rfl)  (sm_c1 h0),
    fr_c2  (hM.on rfl) (sm_c2 h0),
    fr_r1 (hC.on rfl)  (sm_r1 h0),
    fr_r2 (hC.on rfl)  (sm_r2 h0),
    fr_s0 (hC.on rfl)  (sm_s0 h0),
    fr_sK (hC.on rfl) (hM.on rfl) (sm_sK h0),
    fr_sM (hC.on rfl) (hM.on rfl) (sm_sM h0),
    fr_sA (hC.on rfl) (hM.on rfl) (sm_sA h0),
    fr_sB (hC.on rfl) (hM.on rfl) (sm_sB h0),
    fr_sI (hC.on rfl) (hM.on rfl) (sm_sI h0),
    fr_sW (hC.on rfl) (hM.on rfl) (sm_sW h0),
    fr_sP (hC.on rfl) (hM.on rfl) (sm_sP h0),
    fr_sH (hC.on rfl) (hM.on rfl) (sm_sH h0),
    fr_sT (hC.on rfl) (hM.on rfl) (sm_sT h0),
    fr_vK  (hM.on rfl) (sm_vK h0),
    fr_vB  (hM.on rfl) (sm_vB h0),
    fr_n1  (hM.on rfl) (sm_n1 h0),
    fr_n2 (hC.on rfl) (hM.on rfl) (sm_n2 h0),
    fr_vM  (hM.on rfl) (sm_vM h0),
    fr_vT  (hM.on rfl) (sm_vT h0),
    fr_tB (hC.on rfl) (hM.on rfl) (sm_tB h0),
    fr_vJ  (hM.on rfl) (sm_vJ h0),
    fr_vH  (hM.on rfl) (sm_vH h0),
    fr_l0 (hC.on rfl) (hM.on rfl) (sm_l0 h0),
    fr_l1 (hC.on rfl) (hM.on rfl) (sm_l1 h0),
    fr_l3 (hC.on rfl) (hM.on rfl) (sm_l3 h0),
    fr_l4 (hC.on rfl) (hM.on rfl) (sm_l4 h0),
    fr_l5 (hC.on rfl) (hM.on rfl) (sm_l5 h0),
    fr_vL  (hM.on rfl) (sm_vL h0),
    fr_vW  (hM.on rfl) (sm_vW h0),
    fr_vE  (hM.on rfl) (sm_vE h0),
    fr_vD  (hM.on rfl) (sm_vD h0),
    fr_h1 (hC.on rfl) (hM.on rfl) (sm_h1 h0),
    fr_h2 (hC.on rfl) (hM.on rfl) (sm_h2 h0),
    fr_h3 (hC.on rfl) (hM.on rfl) (sm_h3 h0),
    fr_h4 (hC.on rfl) (hM.on rfl) (sm_h4 h0),
    fr_h5 (hC.on rfl) (hM.on rfl) (sm_h5 h0),
    fr_z1  (hM.on rfl) (sm_z1 h0),
    fr_z2  (hM.on rfl) (sm_z2 h0),
    fr_z3  (hM.on rfl) (sm_z3 h0),
    fr_e1 (hC.on rfl) (hM.on rfl) (sm_e1 h0),
    fr_e2  (hM.on rfl) (sm_e2 h0),
    fr_e3 (hC.on rfl) (hM.on rfl) (sm_e3 h0),
    fr_o1  (hM.on rfl) (sm_o1 h0),
    fr_o2 (hC.on rfl) (hM.on rfl) (sm_o2 h0),
    fr_o3 (hC.on rfl) (hM.on rfl) (sm_o3 h0),
    fr_o4 (hC.on rfl) (hM.on rfl) (sm_o4 h0),
    fr_o5 (hC.on rfl) (hM.on rfl) (sm_o5 h0),
    fr_o6  (hM.on rfl) (sm_o6 h0),
    fr_g1 (hC.on rfl) (hM.on rfl) (sm_g1 h0),
    fr_d1 (hC.on rfl) (hM.on rfl) (sm_d1 h0),
    fr_t1 (hC.on rfl) (hM.on rfl) (sm_t1 h0),
    fr_x1 hCt hMt (sm_x1 h0),
    (by unfold f_a1; rw [n1, n2]),
    fr_a2 (hC.on rfl) (hM.on rfl) (sm_a2 h0),
    fr_p1 (hC.on rfl) (hM.on rfl) (sm_p1 h0),
    fr_p2 (hC.on rfl) (hM.on rfl) (sm_p2 h0)⟩, ?_, ?_, ?_, ?_, n2⟩
    · rw [(kc 2 (by decide)).1]; exact h1
    · rw [(kc 3 (by decide)).1]; exact h2
    · intro z; rw [(kc 4 (by decide)).1, (km 5900 (by decide)).1]; exact h3 z
    · rw [(km 1253 (by decide)).1]; exact h4
def JA (nS nL k s t K : Nat) (x y : Option (Int32 × Mem)) : Prop := ∃ r C' M' t', x = some (r, C') ∧ y = some (r, M') ∧ AJ C' M' nS nL k s t' ∧ t' ≤ t + K
theorem rn_s (n : Nat) (a f x d : Int32) (M : Mem) : fX0_runN (n + 1) a f x d M = fX0_run (fX0_runN n) a f x d M := rfl
theorem dep {d : Nat} (hd : d < 24) : (nI d + (1 : Int32) ≤ (24 : Int32)) := by
  rw [nI_1]
  exact nI_le (b := 24) (by omega) (by decide)
theorem ab_1 : tAb (1 : Int32).toNatClampNeg = nI 0 := by decide +kernel
theorem ab_2 : tAb (2 : Int32).toNatClampNeg = nI 0 := by decide +kernel
theorem ab_3 : tAb (3 : Int32).toNatClampNeg = nI 2 := by decide +kernel
theorem ab_4 : tAb (4 : Int32).toNatClampNeg = nI 0 := by decide +kernel
theorem ab_5 : tAb (5 : Int32).toNatClampNeg = nI 4 := by decide +kernel
theorem ab_6 : tAb (6 : Int32).toNatClampNeg = nI 5 := by decide +kernel
theorem ix7 {ρ : Type} {k : Option ρ} {j : Nat} (hj : j < 7) : ix (nI j) 7 k = k := ix_n hj (by omega)
theorem run_1 (rr : Int32 → Int32 → Int32 → Int32 → Mem → Option (Int32 × Mem)) {a f d : Nat} (ha : a < 4) (hf : f < 7) (hb : bodT.getD (7 * a + f) 0 = 1) (hd : d < 24) (x : Int32) {C C1 : Mem} (hg : fX0_begin (nI 1) C = some ((), C1)) : fX0_run rr (nI a) (nI f) x (nI d) C = (some (x + mgI C1 3 0 0, C1)) := by
  unfold fX0_run
  rw [bod_r ha hf hb]
  simp only [bd_u, nm_u]
  rw [if_pos (dep hd), hg, nI_1]
  simp only [bE_u]
  rw [if_pos (show nI 1 = (1 : Int32) from rfl)]
theorem run_2 (rr : Int32 → Int32 → Int32 → Int32 → Mem → Option (Int32 × Mem)) {a f d : Nat} (ha : a < 4) (hf : f < 7) (hb : bodT.getD (7 * a + f) 0 = 2) (hd : d < 24) (x : Int32) {C C1 : Mem} (hg : fX0_begin (nI 2) C = some ((), C1)) : fX0_run rr (nI a) (nI f) x (nI d) C = (bE (rr (1 : Int32) (mgI C1 2 0 0) x (nI (d + 1)) C1) fun b8 M9 => bE (rr (2 : Int32) (mgI M9 2 0 0) (1 : Int32) (nI (d + 1)) M9) fun b10 M11 => some (b8 - b10, M11)) := by
  unfold fX0_run
  rw [bod_r ha hf hb]
  simp only [bd_u, nm_u]
  rw [if_pos (dep hd), hg, nI_1]
  simp only [bE_u]
  rw [if_neg (show ¬ nI 2 = (1 : Int32) by decide), if_pos (show nI 2 = (2 : Int32) from rfl)]
theorem run_10 (rr : Int32 → Int32 → Int32 → Int32 → Mem → Option (Int32 × Mem)) {a f d : Nat} (ha : a < 4) (hf : f < 7) (hb : bodT.getD (7 * a + f) 0 = 10) (hd : d < 24) (x : Int32) {C C1 : Mem} (hg : fX0_begin (nI 10) C = some ((), C1)) : fX0_run rr (nI a) (nI f) x (nI d) C = (bE (rr (0 : Int32) (mgI C1 2 0 0) x (nI (d + 1)) C1) fun b13 M14 => some (b13 * (2 : Int32), M14)) := by
  unfold fX0_run
  rw [bod_r ha hf hb]
  simp only [bd_u, nm_u]
  rw [if_pos (dep hd), hg, nI_1]
  simp only [bE_u]
  rw [if_neg (show ¬ nI 10 = (1 : Int32) by decide), if_neg (show ¬ nI 10 = (2 : Int32) by decide), if_pos (show nI 10 = (10 : Int32) from rfl)]
theorem run_11 (rr : Int32 → Int32 → Int32 → Int32 → Mem → Option (Int32 × Mem)) {a f d : Nat} (ha : a < 4) (hf : f < 7) (hb : bodT.getD (7 * a + f) 0 = 11) (hd : d < 24) (x : Int32) {C C1 : Mem} (hg : fX0_begin (nI 11) C = some ((), C1)) : fX0_run rr (nI a) (nI f) x (nI d) C = (some (x ^^^ mgI C1 3 0 0, C1)) := by
  unfold fX0_run
  rw [bod_r ha hf hb]
  simp only [bd_u, nm_u]
  rw [if_pos (dep hd), hg, nI_1]
  simp only [bE_u]
  rw [if_neg (show ¬ nI 11 = (1 : Int32) by decide), if_neg (show ¬ nI 11 = (2 : Int32) by decide), if_neg (show ¬ nI 11 = (10 : Int32) by decide), if_pos (show nI 11 = (11 : Int32) from rfl)]
theorem run_20 (rr : Int32 → Int32 → Int32 → Int32 → Mem → Option (Int32 × Mem)) {a f d : Nat} (ha : a < 4) (hf : f < 7) (hb : bodT.getD (7 * a + f) 0 = 20) (hd : d < 24) (x : Int32) {C C1 : Mem} (hg : fX0_begin (nI 20) C = some ((), C1)) : fX0_run rr (nI a) (nI f) x (nI d) C = (bE (rr (1 : Int32) (nI 0) x (nI (d + 1)) C1) fun b17 M18 => some (b17 + (3 : Int32), M18)) := by
  unfold fX0_run
  rw [bod_r ha hf hb]
  simp only [bd_u, nm_u]
  rw [if_pos (dep hd), hg, nI_1]
  simp only [bE_u]
  rw [if_neg (show ¬ nI 20 = (1 : Int32) by decide), if_neg (show ¬ nI 20 = (2 : Int32) by decide), if_neg (show ¬ nI 20 = (10 : Int32) by decide), if_neg (show ¬ nI 20 = (11 : Int32) by decide), if_pos (show nI 20 = (20 : Int32) from rfl)]
  rw [show (1 : Int32) = nI 1 from rfl, ix7 (by omega), show nI 1 = (1 : Int32) from rfl, ab_1]
theorem run_30 (rr : Int32 → Int32 → Int32 → Int32 → Mem → Option (Int32 × Mem)) {a f d : Nat} (ha : a < 4) (hf : f < 7) (hb : bodT.getD (7 * a + f) 0 = 30) (hd : d < 24) (x : Int32) {C C1 : Mem} (hg : fX0_begin (nI 30) C = some ((), C1)) : fX0_run rr (nI a) (nI f) x (nI d) C = (bE (rr (0 : Int32) (nI 0) x (nI (d + 1)) C1) fun b20 M21 => some (b20 + mgI M21 4 0 0, M21)) := by
  unfold fX0_run
  rw [bod_r ha hf hb]
  simp only [bd_u, nm_u]
  rw [if_pos (dep hd), hg, nI_1]
  simp only [bE_u]
  rw [if_neg (show ¬ nI 30 = (1 : Int32) by decide), if_neg (show ¬ nI 30 = (2 : Int32) by decide), if_neg (show ¬ nI 30 = (10 : Int32) by decide), if_neg (show ¬ nI 30 = (11 : Int32) by decide), if_neg (show ¬ nI 30 = (20 : Int32) by decide), if_pos (show nI 30 = (30 : Int32) from rfl)]
  rw [show (2 : Int32) = nI 2 from rfl, ix7 (by omega), show nI 2 = (2 : Int32) from rfl, ab_2]
theorem run_40 (rr : Int32 → Int32 → Int32 → Int32 → Mem → Option (Int32 × Mem)) {a f d : Nat} (ha : a < 4) (hf : f < 7) (hb : bodT.getD (7 * a + f) 0 = 40) (hd : d < 24) (x : Int32) {C C1 : Mem} (hg : fX0_begin (nI 40) C = some ((), C1)) : fX0_run rr (nI a) (nI f) x (nI d) C = (bE (rr (2 : Int32) (nI 2) x (nI (d + 1)) C1) fun b23 M24 => some (b23 * (3 : Int32), M24)) := by
  unfold fX0_run
  rw [bod_r ha hf hb]
  simp only [bd_u, nm_u]
  rw [if_pos (dep hd), hg, nI_1]
  simp only [bE_u]
  rw [if_neg (show ¬ nI 40 = (1 : Int32) by decide), if_neg (show ¬ nI 40 = (2 : Int32) by decide), if_neg (show ¬ nI 40 = (10 : Int32) by decide), if_neg (show ¬ nI 40 = (11 : Int32) by decide), if_neg (show ¬ nI 40 = (20 : Int32) by decide), if_neg (show ¬ nI 40 = (30 : Int32) by decide), if_pos (show nI 40 = (40 : Int32) from rfl)]
  rw [show (3 : Int32) = nI 3 from rfl, ix7 (by omega), show nI 3 = (3 : Int32) from rfl, ab_3]
theorem run_41 (rr : Int32 → Int32 → Int32 → Int32 → Mem → Option (Int32 × Mem)) {a f d : Nat} (ha : a < 4) (hf : f < 7) (hb : bodT.getD (7 * a + f) 0 = 41) (hd : d < 24) (x : Int32) {C C1 : Mem} (hg : fX0_begin (nI 41) C = some ((), C1)) : fX0_run rr (nI a) (nI f) x (nI d) C = (bE (rr (3 : Int32) (nI 2) x (nI (d + 1)) C1) fun b26 M27 => some (b26 ^^^ (5 : Int32), M27)) := by
  unfold fX0_run
  rw [bod_r ha hf hb]
  simp only [bd_u, nm_u]
  rw [if_pos (dep hd), hg, nI_1]
  simp only [bE_u]
  rw [if_neg (show ¬ nI 41 = (1 : Int32) by decide), if_neg (show ¬ nI 41 = (2 : Int32) by decide), if_neg (show ¬ nI 41 = (10 : Int32) by decide), if_neg (show ¬ nI 41 = (11 : Int32) by decide), if_neg (show ¬ nI 41 = (20 : Int32) by decide), if_neg (show ¬ nI 41 = (30 : Int32) by decide), if_neg (show ¬ nI 41 = (40 : Int32) by decide), if_pos (show nI 41 = (41 : Int32) from rfl)]
  rw [show (3 : Int32) = nI 3 from rfl, ix7 (by omega), show nI 3 = (3 : Int32) from rfl, ab_3]
theorem run_50 (rr : Int32 → Int32 → Int32 → Int32 → Mem → Option (Int32 × Mem)) {a f d : Nat} (ha : a < 4) (hf : f < 7) (hb : bodT.getD (7 * a + f) 0 = 50) (hd : d < 24) (x : Int32) {C C1 : Mem} (hg : fX0_begin (nI 50) C = some ((), C1)) : fX0_run rr (nI a) (nI f) x (nI d) C = (bE (rr (1 : Int32) (nI 0) x (nI (d + 1)) C1) fun b29 M30 => some (-b29, M30)) := by
  unfold fX0_run
  rw [bod_r ha hf hb]
  simp only [bd_u, nm_u]
  rw [if_pos (dep hd), hg, nI_1]
  simp only [bE_u]
  rw [if_neg (show ¬ nI 50 = (1 : Int32) by decide), if_neg (show ¬ nI 50 = (2 : Int32) by decide), if_neg (show ¬ nI 50 = (10 : Int32) by decide), if_neg (show ¬ nI 50 = (11 : Int32) by decide), if_neg (show ¬ nI 50 = (20 : Int32) by decide), if_neg (show ¬ nI 50 = (30 : Int32) by decide), if_neg (show ¬ nI 50 = (40 : Int32) by decide), if_neg (show ¬ nI 50 = (41 : Int32) by decide), if_pos (show nI 50 = (50 : Int32) from rfl)]
  rw [show (4 : Int32) = nI 4 from rfl, ix7 (by omega), show nI 4 = (4 : Int32) from rfl, ab_4]
theorem run_60 (rr : Int32 → Int32 → Int32 → Int32 → Mem → Option (Int32 × Mem)) {a f d : Nat} (ha : a < 4) (hf : f < 7) (hb : bodT.getD (7 * a + f) 0 = 60) (hd : d < 24) (x : Int32) {C C1 : Mem} (hg : fX0_begin (nI 60) C = some ((), C1)) : fX0_run rr (nI a) (nI f) x (nI d) C = (bE (rr (2 : Int32) (nI 4) x (nI (d + 1)) C1) fun b32 M33 => bE (rr (0 : Int32) (mgI M33 2 0 0) (2 : Int32) (nI (d + 1)) M33) fun b34 M35 => some (b32 - b34, M35)) := by
  unfold fX0_run
  rw [bod_r ha hf hb]
  simp only [bd_u, nm_u]
  rw [if_pos (dep hd), hg, nI_1]
  simp only [bE_u]
  rw [if_neg (show ¬ nI 60 = (1 : Int32) by decide), if_neg (show ¬ nI 60 = (2 : Int32) by decide), if_neg (show ¬ nI 60 = (10 : Int32) by decide), if_neg (show ¬ nI 60 = (11 : Int32) by decide), if_neg (show ¬ nI 60 = (20 : Int32) by decide), if_neg (show ¬ nI 60 = (30 : Int32) by decide), if_neg (show ¬ nI 60 = (40 : Int32) by decide), if_neg (show ¬ nI 60 = (41 : Int32) by decide), if_neg (show ¬ nI 60 = (50 : Int32) by decide), if_pos (show nI 60 = (60 : Int32) from rfl)]
  rw [show (5 : Int32) = nI 5 from rfl, ix7 (by omega), show nI 5 = (5 : Int32) from rfl, ab_5]
theorem run_70 (rr : Int32 → Int32 → Int32 → Int32 → Mem → Option (Int32 × Mem)) {a f d : Nat} (ha : a < 4) (hf : f < 7) (hb : bodT.getD (7 * a + f) 0 = 70) (hd : d < 24) (x : Int32) {C C1 : Mem} (hg : fX0_begin (nI 70) C = some ((), C1)) : fX0_run rr (nI a) (nI f) x (nI d) C = (bE (rr (0 : Int32) (nI 5) (x + (1 : Int32)) (nI (d + 1)) C1) fun b37 M38 => some (b37, M38)) := by
  unfold fX0_run
  rw [bod_r ha hf hb]
  simp only [bd_u, nm_u]
  rw [if_pos (dep hd), hg, nI_1]
  simp only [bE_u]
  rw [if_neg (show ¬ nI 70 = (1 : Int32) by decide), if_neg (show ¬ nI 70 = (2 : Int32) by decide), if_neg (show ¬ nI 70 = (10 : Int32) by decide), if_neg (show ¬ nI 70 = (11 : Int32) by decide), if_neg (show ¬ nI 70 = (20 : Int32) by decide), if_neg (show ¬ nI 70 = (30 : Int32) by decide), if_neg (show ¬ nI 70 = (40 : Int32) by decide), if_neg (show ¬ nI 70 = (41 : Int32) by decide), if_neg (show ¬ nI 70 = (50 : Int32) by decide), if_neg (show ¬ nI 70 = (60 : Int32) by decide), if_pos (show nI 70 = (70 : Int32) from rfl)]
  rw [show (6 : Int32) = nI 6 from rfl, ix7 (by omega), show nI 6 = (6 : Int32) from rfl, ab_6]
theorem run_71 (rr : Int32 → Int32 → Int32 → Int32 → Mem → Option (Int32 × Mem)) {a f d : Nat} (ha : a < 4) (hf : f < 7) (hb : bodT.getD (7 * a + f) 0 = 71) (hd : d < 24) (x : Int32) {C C1 : Mem} (hg : fX0_begin (nI 71) C = some ((), C1)) : fX0_run rr (nI a) (nI f) x (nI d) C = (bE (rr (2 : Int32) (nI 5) x (nI (d + 1)) C1) fun b40 M41 => some (b40 * (2 : Int32), M41)) := by
  unfold fX0_run
  rw [bod_r ha hf hb]
  simp only [bd_u, nm_u]
  rw [if_pos (dep hd), hg, nI_1]
  simp only [bE_u]
  rw [if_neg (show ¬ nI 71 = (1 : Int32) by decide), if_neg (show ¬ nI 71 = (2 : Int32) by decide), if_neg (show ¬ nI 71 = (10 : Int32) by decide), if_neg (show ¬ nI 71 = (11 : Int32) by decide), if_neg (show ¬ nI 71 = (20 : Int32) by decide), if_neg (show ¬ nI 71 = (30 : Int32) by decide), if_neg (show ¬ nI 71 = (40 : Int32) by decide), if_neg (show ¬ nI 71 = (41 : Int32) by decide), if_neg (show ¬ nI 71 = (50 : Int32) by decide), if_neg (show ¬ nI 71 = (60 : Int32) by decide), if_neg (show ¬ nI 71 = (70 : Int32) by decide), if_pos (show nI 71 = (71 : Int32) from rfl)]
  rw [show (6 : Int32) = nI 6 from rfl, ix7 (by omega), show nI 6 = (6 : Int32) from rfl, ab_6]
theorem un_q : ∀ k, k < 7 → fX12_isUnder (nI k) (2 : Int32) = (if k = 2 ∨ k = 3 then 1 else 0) ∧ fX12_isUnder (nI k) (4 : Int32) = (if k = 4 ∨ k = 5 ∨ k = 6 then 1 else 0) := by decide +kernel
theorem kq : ∀ k, k < 7 → (nI k = (6 : Int32) ↔ k = 6) ∧ (nI k = (5 : Int32) ↔ k = 5) ∧ (nI k = (3 : Int32) ↔ k = 3) ∧ (nI k = (1 : Int32) ↔ k = 1) := by decide +kernel
theorem pst_q {nS nL k s t d f : Nat} (hf : f < 7) (hbf : bodT.getD (7 * 0 + f) 0 = 1) (hd : d < 24) (ht : t < 1000000) (n : Nat) (x : Int32) {C M : Mem} (h : AJ C M nS nL k s t) : JA nS nL k s t 1 (fX0_runN (n + 1) (nI 0) (nI f) x (nI d) C) (fX12_plainStands (nI s) x M) := by
  obtain ⟨C1, M1, g1, g2, g3⟩ := bg_q h ht (nI 1)
  rw [rn_s, run_1 _ (by omega) hf hbf hd x g1]
  unfold fX12_plainStands
  rw [show (1 : Int32) = nI 1 from rfl, g2]
  simp only [bE_u]
  rw [g3.2.2.1]
  exact ⟨_, C1, M1, _, rfl, rfl, g3, Nat.le_refl _⟩
theorem ph_q {nS nL k s t d f : Nat} (hf : f < 7) (hbf : bodT.getD (7 * 2 + f) 0 = 11) (hd : d < 24) (ht : t < 1000000) (n : Nat) (x : Int32) {C M : Mem} (h : AJ C M nS nL k s t) : JA nS nL k s t 1 (fX0_runN (n + 1) (nI 2) (nI f) x (nI d) C) (fX12_plainHears (nI s) x M) := by
  obtain ⟨C1, M1, g1, g2, g3⟩ := bg_q h ht (nI 11)
  rw [rn_s, run_11 _ (by omega) hf hbf hd x g1]
  unfold fX12_plainHears
  rw [show (11 : Int32) = nI 11 from rfl, g2]
  simp only [bE_u]
  rw [g3.2.2.1]
  exact ⟨_, C1, M1, _, rfl, rfl, g3, Nat.le_refl _⟩
theorem st_q {nS nL k s t d : Nat} (hs : s < nS) (hk : k < 7) (hd : d < 22) (ht : t < 999990) (n : Nat) (x : Int32) {C M : Mem} (h : AJ C M nS nL k s t) : JA nS nL k s t 2 (fX0_runN (n + 2) (nI 0) (nI k) x (nI d) C) (fX12_stands (nI s) x M) := by
  unfold fX12_stands
  simp only [nm_u]
  obtain ⟨u2, u4⟩ := un_q k hk
  obtain ⟨k6, k5, k3, k1⟩ := kq k hk
  rw [h.2.2.2.2.1, u2]
  by_cases h23 : k = 2 ∨ k = 3
  · rw [if_pos h23, if_neg one_ne]
    have hb : bodT.getD (7 * 0 + k) 0 = 30 := by rcases h23 with rfl | rfl <;> rfl
    obtain ⟨C1, M1, g1, g2, g3⟩ := bg_q h (by omega) (nI 30)
    rw [show n + 2 = (n + 1) + 1 from rfl, rn_s, run_30 _ (by omega) hk hb (by omega) x g1, show (30 : Int32) = nI 30 from rfl, g2]
    simp only [bE_u]
    obtain ⟨r, C2, M2, t2, j1, j2, j3, j4⟩ := pst_q (f := 0) (d := d + 1) (by omega) rfl (by omega) (by omega) n x g3
    rw [show (0 : Int32) = nI 0 from rfl, j1, j2]
    simp only [bE_u]
    rw [lo_q j3.1 hs, j3.2.2.2.1 h23]
    exact ⟨_, C2, M2, t2, rfl, rfl, j3, by omega⟩
  · rw [if_neg h23, if_pos rfl]
    by_cases h6 : k = 6
    · rw [if_pos (k6.mpr h6)]
      have hb : bodT.getD (7 * 0 + k) 0 = 70 := by subst h6; rfl
      obtain ⟨C1, M1, g1, g2, g3⟩ := bg_q h (by omega) (nI 70)
      rw [show n + 2 = (n + 1) + 1 from rfl, rn_s, run_70 _ (by omega) hk hb (by omega) x g1, show (70 : Int32) = nI 70 from rfl, g2]
      simp only [bE_u]
      obtain ⟨r, C2, M2, t2, j1, j2, j3, j4⟩ := pst_q (f := 5) (d := d + 1) (by omega) rfl (by omega) (by omega) n (x + (1 : Int32)) g3
      rw [show (0 : Int32) = nI 0 from rfl, j1, j2]
      exact ⟨_, C2, M2, t2, rfl, rfl, j3, by omega⟩
    · rw [if_neg (fun z => h6 (k6.mp z))]
      have hb : bodT.getD (7 * 0 + k) 0 = 1 := by
        have : k = 0 ∨ k = 1 ∨ k = 4 ∨ k = 5 := by omega
        rcases this with rfl | rfl | rfl | rfl <;> rfl
      obtain ⟨r, C2, M2, t2, j1, j2, j3, j4⟩ := pst_q hk hb (d := d) (by omega) (by omega) (n + 1) x h
      rw [show n + 2 = (n + 1) + 1 from rfl, j1, j2]
      exact ⟨_, C2, M2, t2, rfl, rfl, j3, by omega⟩
theorem pf_q {nS nL k s t d f : Nat} (hs : s < nS) (hk : k < 7) (hf : f < 7) (hbf : bodT.getD (7 * 1 + f) 0 = 10) (hd : d < 21) (ht : t < 999980) (n : Nat) (x : Int32) {C M : Mem} (h : AJ C M nS nL k s t) : JA nS nL k s t 3 (fX0_runN (n + 3) (nI 1) (nI f) x (nI d) C) (fX12_plainFalls (nI s) x M) := by
  obtain ⟨C1, M1, g1, g2, g3⟩ := bg_q h (by omega) (nI 10)
  rw [show n + 3 = (n + 2) + 1 from rfl, rn_s, run_10 _ (by omega) hf hbf (by omega) x g1]
  unfold fX12_plainFalls
  rw [show (10 : Int32) = nI 10 from rfl, g2]
  simp only [bE_u]
  obtain ⟨r, C2, M2, t2, j1, j2, j3, j4⟩ := st_q hs hk (d := d + 1) (by omega) (by omega) n x g3
  rw [g3.2.1, show (0 : Int32) = nI 0 from rfl, j1, j2]
  exact ⟨_, C2, M2, t2, rfl, rfl, j3, by omega⟩
theorem fa2_q {nS nL k s t d : Nat} (hs : s < nS) (hk : k < 7) (hd : d < 20) (ht : t < 999970) (n : Nat) (x : Int32) {C M : Mem} (h : AJ C M nS nL k s t) : JA nS nL k s t 4 (fX0_runN (n + 4) (nI 1) (nI k) x (nI d) C) (fX12_fallen (nI s) x M) := by
  unfold fX12_fallen
  simp only [nm_u]
  obtain ⟨u2, u4⟩ := un_q k hk
  obtain ⟨k6, k5, k3, k1⟩ := kq k hk
  rw [h.2.2.2.2.1, u4]
  by_cases h1 : k = 1
  · rw [if_pos (k1.mpr h1)]
    have hb : bodT.getD (7 * 1 + k) 0 = 20 := by subst h1; rfl
    obtain ⟨C1, M1, g1, g2, g3⟩ := bg_q h (by omega) (nI 20)
    rw [show n + 4 = (n + 3) + 1 from rfl, rn_s, run_20 _ (by omega) hk hb (by omega) x g1, show (20 : Int32) = nI 20 from rfl, g2]
    simp only [bE_u]
    obtain ⟨r, C2, M2, t2, j1, j2, j3, j4⟩ := pf_q hs hk (f := 0) (d := d + 1) (by omega) rfl (by omega) (by omega) n x g3
    rw [show (1 : Int32) = nI 1 from rfl, j1, j2]
    exact ⟨_, C2, M2, t2, rfl, rfl, j3, by omega⟩
  · rw [if_neg (fun z => h1 (k1.mp z))]
    by_cases h456 : k = 4 ∨ k = 5 ∨ k = 6
    · rw [if_pos h456, if_neg one_ne]
      have hb : bodT.getD (7 * 1 + k) 0 = 50 := by rcases h456 with rfl | rfl | rfl <;> rfl
      obtain ⟨C1, M1, g1, g2, g3⟩ := bg_q h (by omega) (nI 50)
      rw [show n + 4 = (n + 3) + 1 from rfl, rn_s, run_50 _ (by omega) hk hb (by omega) x g1, show (50 : Int32) = nI 50 from rfl, g2]
      simp only [bE_u]
      obtain ⟨r, C2, M2, t2, j1, j2, j3, j4⟩ := pf_q hs hk (f := 0) (d := d + 1) (by omega) rfl (by omega) (by omega) n x g3
      rw [show (1 : Int32) = nI 1 from rfl, j1, j2]
      exact ⟨_, C2, M2, t2, rfl, rfl, j3, by omega⟩
    · rw [if_neg h456, if_pos rfl]
      have hb : bodT.getD (7 * 1 + k) 0 = 10 := by
        have : k = 0 ∨ k = 2 ∨ k = 3 := by omega
        rcases this with rfl | rfl | rfl <;> rfl
      obtain ⟨r, C2, M2, t2, j1, j2, j3, j4⟩ := pf_q hs hk hk hb (d := d) (by omega) (by omega) (n + 1) x h
      rw [show n + 4 = (n + 1) + 3 from rfl, j1, j2]
      exact ⟨_, C2, M2, t2, rfl, rfl, j3, by omega⟩
theorem hh_q {nS nL k s t d f : Nat} (hs : s < nS) (hk : k < 7) (hf : f < 7) (hbf : bodT.getD (7 * 2 + f) 0 = 60) (hd : d < 20) (ht : t < 999970) (n : Nat) (x : Int32) {C M : Mem} (h : AJ C M nS nL k s t) : JA nS nL k s t 4 (fX0_runN (n + 3) (nI 2) (nI f) x (nI d) C) (fX12_heldHears (nI s) x M) := by
  obtain ⟨C1, M1, g1, g2, g3⟩ := bg_q h (by omega) (nI 60)
  rw [show n + 3 = (n + 2) + 1 from rfl, rn_s, run_60 _ (by omega) hf hbf (by omega) x g1]
  unfold fX12_heldHears
  rw [show (60 : Int32) = nI 60 from rfl, g2]
  simp only [bE_u]
  obtain ⟨r, C2, M2, t2, j1, j2, j3, j4⟩ := ph_q (f := 4) (d := d + 1) (by omega) rfl (by omega) (by omega) (n + 1) x g3
  obtain ⟨r3, C3, M3, t3, i1, i2, i3, i4⟩ := st_q hs hk (d := d + 1) (by omega) (by omega) n (2 : Int32) j3
  have j1' : fX0_runN (n + 2) (2 : Int32) (nI 4) x (nI (d + 1)) C1 = some (r, C2) := j1
  have i1' : fX0_runN (n + 2) (0 : Int32) (nI k) (2 : Int32) (nI (d + 1)) C2 = some (r3, C3) := i1
  rw [j1', j2]
  simp only [bE_u]
  rw [j3.2.1, i1', i2]
  exact ⟨_, C3, M3, t3, rfl, rfl, i3, by omega⟩
theorem hb_q {nS nL k s t d : Nat} (hs : s < nS) (hk : k < 7) (hd : d < 19) (ht : t < 999960) (n : Nat) (x : Int32) {C M : Mem} (h : AJ C M nS nL k s t) : JA nS nL k s t 5 (fX0_runN (n + 4) (nI 2) (nI k) x (nI d) C) (fX12_heardBy (nI s) x M) := by
  unfold fX12_heardBy
  obtain ⟨k6, k5, k3, k1⟩ := kq k hk
  rw [h.2.2.2.2.1]
  by_cases h3 : k = 3
  · rw [if_pos (k3.mpr h3)]
    have hb : bodT.getD (7 * 2 + k) 0 = 40 := by subst h3; rfl
    obtain ⟨C1, M1, g1, g2, g3⟩ := bg_q h (by omega) (nI 40)
    rw [show n + 4 = (n + 3) + 1 from rfl, rn_s, run_40 _ (by omega) hk hb (by omega) x g1, show (40 : Int32) = nI 40 from rfl, g2]
    simp only [bE_u]
    obtain ⟨r, C2, M2, t2, j1, j2, j3, j4⟩ := ph_q (f := 2) (d := d + 1) (by omega) rfl (by omega) (by omega) (n + 2) x g3
    have j1' : fX0_runN (n + 3) (2 : Int32) (nI 2) x (nI (d + 1)) C1 = some (r, C2) := j1
    rw [j1', j2]
    exact ⟨_, C2, M2, t2, rfl, rfl, j3, by omega⟩
  · rw [if_neg (fun z => h3 (k3.mp z))]
    by_cases h6 : k = 6
    · rw [if_pos (k6.mpr h6)]
      have hb : bodT.getD (7 * 2 + k) 0 = 71 := by subst h6; rfl
      obtain ⟨C1, M1, g1, g2, g3⟩ := bg_q h (by omega) (nI 71)
      rw [show n + 4 = (n + 3) + 1 from rfl, rn_s, run_71 _ (by omega) hk hb (by omega) x g1, show (71 : Int32) = nI 71 from rfl, g2]
      simp only [bE_u]
      obtain ⟨r, C2, M2, t2, j1, j2, j3, j4⟩ := hh_q hs hk (f := 5) (d := d + 1) (by omega) rfl (by omega) (by omega) n x g3
      have j1' : fX0_runN (n + 3) (2 : Int32) (nI 5) x (nI (d + 1)) C1 = some (r, C2) := j1
      rw [j1', j2]
      exact ⟨_, C2, M2, t2, rfl, rfl, j3, by omega⟩
    · rw [if_neg (fun z => h6 (k6.mp z))]
      by_cases h5 : k = 5
      · rw [if_pos (k5.mpr h5)]
        have hb : bodT.getD (7 * 2 + k) 0 = 60 := by subst h5; rfl
        obtain ⟨r, C2, M2, t2, j1, j2, j3, j4⟩ := hh_q hs hk hk hb (d := d) (by omega) (by omega) (n + 1) x h
        rw [show n + 4 = (n + 1) + 3 from rfl, j1, j2]
        exact ⟨_, C2, M2, t2, rfl, rfl, j3, by omega⟩
      · rw [if_neg (fun z => h5 (k5.mp z))]
        have hb : bodT.getD (7 * 2 + k) 0 = 11 := by
          have : k = 0 ∨ k = 1 ∨ k = 2 ∨ k = 4 := by omega
          rcases this with rfl | rfl | rfl | rfl <;> rfl
        obtain ⟨r, C2, M2, t2, j1, j2, j3, j4⟩ := ph_q hk hb (d := d) (by omega) (by omega) (n + 3) x h
        rw [show n + 4 = (n + 3) + 1 from rfl, j1, j2]
        exact ⟨_, C2, M2, t2, rfl, rfl, j3, by omega⟩
theorem pt_q {nS nL k s t d f : Nat} (hs : s < nS) (hk : k < 7) (hf : f < 7) (hbf : bodT.getD (7 * 3 + f) 0 = 2) (hd : d < 18) (ht : t < 999950) (n : Nat) (x : Int32) {C M : Mem} (h : AJ C M nS nL k s t) : JA nS nL k s t 10 (fX0_runN (n + 5) (nI 3) (nI f) x (nI d) C) (fX12_plainTells (nI s) x M) := by
  obtain ⟨C1, M1, g1, g2, g3⟩ := bg_q h (by omega) (nI 2)
  rw [show n + 5 = (n + 4) + 1 from rfl, rn_s, run_2 _ (by omega) hf hbf (by omega) x g1]
  unfold fX12_plainTells
  rw [show fX12_ran (2 : Int32) M = some ((), M1) from g2]
  simp only [bE_u]
  obtain ⟨r, C2, M2, t2, j1, j2, j3, j4⟩ := fa2_q hs hk (d := d + 1) (by omega) (by omega) n x g3
  obtain ⟨r3, C3, M3, t3, i1, i2, i3, i4⟩ := hb_q hs hk (d := d + 1) (by omega) (by omega) n (1 : Int32) j3
  have j1' : fX0_runN (n + 4) (1 : Int32) (nI k) x (nI (d + 1)) C1 = some (r, C2) := j1
  have i1' : fX0_runN (n + 4) (2 : Int32) (nI k) (1 : Int32) (nI (d + 1)) C2 = some (r3, C3) := i1
  rw [g3.2.1, j1', j2]
  simp only [bE_u]
  rw [j3.2.1, i1', i2]
  exact ⟨_, C3, M3, t3, rfl, rfl, i3, by omega⟩
theorem te_q {nS nL k s t d : Nat} (hs : s < nS) (hk : k < 7) (hd : d < 17) (ht : t < 999940) (n : Nat) (x : Int32) {C M : Mem} (h : AJ C M nS nL k s t) : JA nS nL k s t 11 (fX0_runN (n + 6) (nI 3) (nI k) x (nI d) C) (fX12_tells (nI s) x M) := by
  unfold fX12_tells
  obtain ⟨k6, k5, k3, k1⟩ := kq k hk
  rw [h.2.2.2.2.1]
  by_cases h3 : k = 3
  · rw [if_pos (k3.mpr h3)]
    have hb : bodT.getD (7 * 3 + k) 0 = 41 := by subst h3; rfl
    obtain ⟨C1, M1, g1, g2, g3⟩ := bg_q h (by omega) (nI 41)
    rw [show n + 6 = (n + 5) + 1 from rfl, rn_s, run_41 _ (by omega) hk hb (by omega) x g1, show (41 : Int32) = nI 41 from rfl, g2]
    simp only [bE_u]
    obtain ⟨r, C2, M2, t2, j1, j2, j3, j4⟩ := pt_q hs hk (f := 2) (d := d + 1) (by omega) rfl (by omega) (by omega) n x g3
    have j1' : fX0_runN (n + 5) (3 : Int32) (nI 2) x (nI (d + 1)) C1 = some (r, C2) := j1
    rw [j1', j2]
    exact ⟨_, C2, M2, t2, rfl, rfl, j3, by omega⟩
  · rw [if_neg (fun z => h3 (k3.mp z))]
    have hb : bodT.getD (7 * 3 + k) 0 = 2 := by
      have : k = 0 ∨ k = 1 ∨ k = 2 ∨ k = 4 ∨ k = 5 ∨ k = 6 := by omega
      rcases this with rfl | rfl | rfl | rfl | rfl | rfl <;> rfl
    obtain ⟨r, C2, M2, t2, j1, j2, j3, j4⟩ := pt_q hs hk hk hb (d := d) (by omega) (by omega) (n + 1) x h
    rw [show n + 6 = (n + 1) + 5 from rfl, j1, j2]
    exact ⟨_, C2, M2, t2, rfl, rfl, j3, by omega⟩
theorem kN_q {C M : Mem} {nS nL : Nat} (h : Sim C M nS nL) {s : Nat} (hs : s < nS) : ∃ k, k < 7 ∧ kN C M s = nI k ∧ (k = 2 ∨ k = 3 → mgI M 5000 0 s = nI k) := by
  unfold kN
  obtain ⟨k, hk, e⟩ := sm_vK h s hs
  split
  · exact ⟨k, by omega, e, fun _ => e⟩
  · exact ⟨6, by omega, rfl, fun z => by omega⟩
/-- the lines that lead, counted by the component -/
theorem dns_ct (lo dr : Nat → Int32) (s : Nat) : ∀ (N : Nat) (x : Nat), dns lo s (fun l (x : Nat) => if dr l = 0 then x + 1 else x) N x = x + ctU (fun l => decide (lo l = nI s ∧ dr l = 0)) N
  | 0, x => rfl
  | N + 1, x => by
    by_cases h : lo N = nI s
    · rw [dns_y h, dns_ct lo dr s N]
      show (if dr N = 0 then x + 1 else x) + _ = x + (ctU _ N + (if decide (lo N = nI s ∧ dr N = 0) = true then 1 else 0))
      by_cases h2 : dr N = 0
      · rw [if_pos h2, if_pos (decide_eq_true ⟨h, h2⟩)]; omega
      · rw [if_neg h2, if_neg (by simp [h2])]; omega
    · rw [dns_n h, dns_ct lo dr s N]
      show _ = x + (ctU _ N + (if decide (lo N = nI s ∧ dr N = 0) = true then 1 else 0))
      rw [if_neg (by simp [h])]; omega
set_option maxHeartbeats 4000000 in
theorem doAs_q {C M : Mem} {nS nL : Nat} (h : Sim C M nS nL) {s k : Nat} (hs : s < nS) (hk : k < 7) (hk2 : k = 2 ∨ k = 3 → mgI M 5000 0 s = nI k) (a x : Int32) : ∃ C', fX0_doAs (nI k) (some s) a x C = (bE (fX0_runT a (nI k) x (0 : Int32) C') fun b11 M12 => some (b11, M12)) ∧ EqOff [2, 3, 4] C C' ∧ mgI C' 2 0 0 = nI k ∧ mgI C' 3 0 0 = nI s ∧ (k = 2 ∨ k = 3 → mgI C' 4 0 0 = nI (ctU (fun l => decide (mgI M 5900 0 l = nI s)) nL)) := by
  have hb : nS ≤ 64 ∧ nL ≤ 200 := sm_b1 h
  unfold fX0_doAs
  simp only [nm_u, oc_SU, uI_I, uL_L, uR_R, uI_L, uI_R, uL_I, uL_R, uR_I, uR_L, Nat.reduceEqDiff, false_and, and_false, true_and, and_true, ↓reduceIte]
  rw [sm_s0 h s hs, sm_h1 h s hs]
  have hE : ∀ y : Nat, EqOff [2, 3, 4] C (msI (msI (msI C 2 0 0 (nI k)) 3 0 0 (nI s)) 4 0 0 (nI y)) := fun y => ((EqOff.refl.I rfl).I rfl).I rfl
  have hl := lpL (fun n o (y : Nat × Mem) => fX0_doAs_l24 a x n o y.2) (mgI M 5900 0) s nL (fun y => EqOff [2, 3, 4] C y.2 ∧ mgI y.2 2 0 0 = nI k ∧ mgI y.2 3 0 0 = nI s ∧ mgI y.2 4 0 0 = nI y.1) (fun l y => if mgI M 6300 0 l = 0 then (y.1 + 1, msI y.2 4 0 0 (nI (y.1 + 1))) else y) (fun y => bE (fX0_runT a (mgI y.2 2 0 0) x (0 : Int32) y.2) fun b11 M12 => some (b11, M12))
    (fun n y hy => by simp only [fX0_doAs_l24, fX0_doAs_b24, oc_NU])
    (fun n l y hl e hy => by
      obtain ⟨y1, y2, y3, y4⟩ := hy
      have g := y1.on (K := [402, 405]) rfl
      refine ⟨?_, ?_⟩
      · simp only [fX0_doAs_l24, fX0_doAs_b24, oc_SU, nm_u, uI_I, uL_L, uR_R, uI_L, uI_R, uL_I, uL_R, uR_I, uR_L, Nat.reduceEqDiff, false_and, and_false, true_and, and_true, ↓reduceIte]
        rw [(g 405 (by decide)).1, (g 402 (by decide)).2.2, sm_l5 h l hl, sm_h2 h l s hl hs e, y4, nI_1]
        by_cases e2 : mgI M 6300 0 l = 0
        · simp only [if_pos e2]
        · simp only [if_neg e2]
      · by_cases e2 : mgI M 6300 0 l = 0
        · rw [if_pos e2]
          exact ⟨y1.I rfl, by simp only [uI_I, uL_L, uR_R, uI_L, uI_R, uL_I, uL_R, uR_I, uR_L, Nat.reduceEqDiff, false_and, and_false, true_and, and_true, ↓reduceIte]; exact y2, by simp only [uI_I, uL_L, uR_R, uI_L, uI_R, uL_I, uL_R, uR_I, uR_L, Nat.reduceEqDiff, false_and, and_false, true_and, and_true, ↓reduceIte]; exact y3, by simp only [uI_I, uL_L, uR_R, uI_L, uI_R, uL_I, uL_R, uR_I, uR_L, Nat.reduceEqDiff, false_and, and_false, true_and, and_true, ↓reduceIte]⟩
        · rw [if_neg e2]
          exact ⟨y1, y2, y3, y4⟩) nL FU (0, msI (msI (msI C 2 0 0 (nI k)) 3 0 0 (nI s)) 4 0 0 (nI 0)) (Nat.le_refl _) (FU_lt (by omega)) ⟨hE 0, by simp only [uI_I, uL_L, uR_R, uI_L, uI_R, uL_I, uL_R, uR_I, uR_L, Nat.reduceEqDiff, false_and, and_false, true_and, and_true, ↓reduceIte], by simp only [uI_I, uL_L, uR_R, uI_L, uI_R, uL_I, uL_R, uR_I, uR_L, Nat.reduceEqDiff, false_and, and_false, true_and, and_true, ↓reduceIte], by simp only [uI_I, uL_L, uR_R, uI_L, uI_R, uL_I, uL_R, uR_I, uR_L, Nat.reduceEqDiff, false_and, and_false, true_and, and_true, ↓reduceIte]⟩
  -- the state behind the walk
  have hst : ∀ N, N ≤ nL → ∀ y : Nat × Mem, (EqOff [2, 3, 4] C y.2 ∧ mgI y.2 2 0 0 = nI k ∧ mgI y.2 3 0 0 = nI s ∧ mgI y.2 4 0 0 = nI y.1) → (dns (mgI M 5900 0) s (fun l (y : Nat × Mem) => if mgI M 6300 0 l = 0 then (y.1 + 1, msI y.2 4 0 0 (nI (y.1 + 1))) else y) N y).1 = dns (mgI M 5900 0) s (fun l (x : Nat) => if mgI M 6300 0 l = 0 then x + 1 else x) N y.1 ∧ (EqOff [2, 3, 4] C (dns (mgI M 5900 0) s (fun l (y : Nat × Mem) => if mgI M 6300 0 l = 0 then (y.1 + 1, msI y.2 4 0 0 (nI (y.1 + 1))) else y) N y).2 ∧ mgI (dns (mgI M 5900 0) s (fun l (y : Nat × Mem) => if mgI M 6300 0 l = 0 then (y.1 + 1, msI y.2 4 0 0 (nI (y.1 + 1))) else y) N y).2 2 0 0 = nI k ∧ mgI (dns (mgI M 5900 0) s (fun l (y : Nat × Mem) => if mgI M 6300 0 l = 0 then (y.1 + 1, msI y.2 4 0 0 (nI (y.1 + 1))) else y) N y).2 3 0 0 = nI s ∧ mgI (dns (mgI M 5900 0) s (fun l (y : Nat × Mem) => if mgI M 6300 0 l = 0 then (y.1 + 1, msI y.2 4 0 0 (nI (y.1 + 1))) else y) N y).2 4 0 0 = nI (dns (mgI M 5900 0) s (fun l (y : Nat × Mem) => if mgI M 6300 0 l = 0 then (y.1 + 1, msI y.2 4 0 0 (nI (y.1 + 1))) else y) N y).1) := by
    intro N
    induction N with
    | zero => intro _ y hy; exact ⟨rfl, hy⟩
    | succ N ih =>
      intro hN y hy
      by_cases e : mgI M 5900 0 N = nI s
      · rw [dns_y e, dns_y e]
        by_cases e2 : mgI M 6300 0 N = 0
        · rw [if_pos e2, if_pos e2]
          exact ih (by omega) (y.1 + 1, msI y.2 4 0 0 (nI (y.1 + 1))) ⟨hy.1.I rfl, by simp only [uI_I, uL_L, uR_R, uI_L, uI_R, uL_I, uL_R, uR_I, uR_L, Nat.reduceEqDiff, false_and, and_false, true_and, and_true, ↓reduceIte]; exact hy.2.1, by simp only [uI_I, uL_L, uR_R, uI_L, uI_R, uL_I, uL_R, uR_I, uR_L, Nat.reduceEqDiff, false_and, and_false, true_and, and_true, ↓reduceIte]; exact hy.2.2.1, by simp only [uI_I, uL_L, uR_R, uI_L, uI_R, uL_I, uL_R, uR_I, uR_L, Nat.reduceEqDiff, false_and, and_false, true_and, and_true, ↓reduceIte]⟩
        · rw [if_neg e2, if_neg e2]
          exact ih (by omega) y hy
      · rw [dns_n e, dns_n e]
        exact ih (by omega) y hy
  obtain ⟨d1, d2, d3, d4, d5⟩ := hst nL (Nat.le_refl _) (0, msI (msI (msI C 2 0 0 (nI k)) 3 0 0 (nI s)) 4 0 0 (nI 0)) ⟨hE 0, by simp only [uI_I, uL_L, uR_R, uI_L, uI_R, uL_I, uL_R, uR_I, uR_L, Nat.reduceEqDiff, false_and, and_false, true_and, and_true, ↓reduceIte], by simp only [uI_I, uL_L, uR_R, uI_L, uI_R, uL_I, uL_R, uR_I, uR_L, Nat.reduceEqDiff, false_and, and_false, true_and, and_true, ↓reduceIte], by simp only [uI_I, uL_L, uR_R, uI_L, uI_R, uL_I, uL_R, uR_I, uR_L, Nat.reduceEqDiff, false_and, and_false, true_and, and_true, ↓reduceIte]⟩
  generalize dns (mgI M 5900 0) s (fun l (y : Nat × Mem) => if mgI M 6300 0 l = 0 then (y.1 + 1, msI y.2 4 0 0 (nI (y.1 + 1))) else y) nL (0, msI (msI (msI C 2 0 0 (nI k)) 3 0 0 (nI s)) 4 0 0 (nI 0)) = Y at hl d1 d2 d3 d4 d5
  refine ⟨Y.2, ?_, d2, d3, d4, fun z => ?_⟩
  · rw [d3] at hl
    exact hl
  · rw [d5, d1, dns_ct, Nat.zero_add]
    congr 1
    refine ctU_cong (fun l hl' => ?_)
    by_cases e : mgI M 5900 0 l = nI s
    · have : mgI M 6300 0 l = 0 := Classical.not_not.mp (fun y => by
        have := sm_vD h l s hl' hs e y
        rw [hk2 z] at this
        have := (nI_eq (by omega) (by omega)).mp this
        omega)
      simp [e, this]
    · simp [e]
theorem qs_act {C M : Mem} {nS nL : Nat} (h : Sim C M nS nL) (a1 a2 a3 : Int32) : QA nS nL (fX11_act a1 a2 a3 C) (fX12_act a1 a2 a3 M) := by
  have hb : nS ≤ 64 ∧ nL ≤ 200 := sm_b1 h
  unfold fX11_act fX12_act
  simp only [nm_u]
  have h1 : Sim (msI C 1 0 0 (0 : Int32)) (msI M 1251 0 0 (0 : Int32)) nS nL := by
    have hC : EqOff [1] C (msI C 1 0 0 (0 : Int32)) := EqOff.refl.I rfl
    have hM : EqOff [1251] M (msI M 1251 0 0 (0 : Int32)) := EqOff.refl.I rfl
    have hCt := hC.txC rfl
    have hMt := hM.txM rfl
    exact ⟨fr_b1 (sm_b1 h),
    fr_c1 (hC.on rfl)  (sm_c1 h),
    fr_c2  (hM.on rfl) (sm_c2 h),
    fr_r1 (hC.on rfl)  (sm_r1 h),
    fr_r2 (hC.on rfl)  (sm_r2 h),
    fr_s0 (hC.on rfl)  (sm_s0 h),
    fr_sK (hC.on rfl) (hM.on rfl) (sm_sK h),
    fr_sM (hC.on rfl) (hM.on rfl) (sm_sM h),
    fr_sA (hC.on rfl) (hM.on rfl) (sm_sA h),
    fr_sB (hC.on rfl) (hM.on rfl) (sm_sB h),
    fr_sI (hC.on rfl) (hM.on rfl) (sm_sI h),
    fr_sW (hC.on rfl) (hM.on rfl) (sm_sW h),
    fr_sP (hC.on rfl) (hM.on rfl) (sm_sP h),
    fr_sH (hC.on rfl) (hM.on rfl) (sm_sH h),
    fr_sT (hC.on rfl) (hM.on rfl) (sm_sT h),
    fr_vK  (hM.on rfl) (sm_vK h),
    fr_vB  (hM.on rfl) (sm_vB h),
    fr_n1  (hM.on rfl) (sm_n1 h),
    fr_n2 (hC.on rfl) (hM.on rfl) (sm_n2 h),
    fr_vM  (hM.on rfl) (sm_vM h),
    fr_vT  (hM.on rfl) (sm_vT h),
    fr_tB (hC.on rfl) (hM.on rfl) (sm_tB h),
    fr_vJ  (hM.on rfl) (sm_vJ h),
    fr_vH  (hM.on rfl) (sm_vH h),
    fr_l0 (hC.on rfl) (hM.on rfl) (sm_l0 h),
    fr_l1 (hC.on rfl) (hM.on rfl) (sm_l1 h),
    fr_l3 (hC.on rfl) (hM.on rfl) (sm_l3 h),
    fr_l4 (hC.on rfl) (hM.on rfl) (sm_l4 h),
    fr_l5 (hC.on rfl) (hM.on rfl) (sm_l5 h),
    fr_vL  (hM.on rfl) (sm_vL h),
    fr_vW  (hM.on rfl) (sm_vW h),
    fr_vE  (hM.on rfl) (sm_vE h),
    fr_vD  (hM.on rfl) (sm_vD h),
    fr_h1 (hC.on rfl) (hM.on rfl) (sm_h1 h),
    fr_h2 (hC.on rfl) (hM.on rfl) (sm_h2 h),
    fr_h3 (hC.on rfl) (hM.on rfl) (sm_h3 h),
    fr_h4 (hC.on rfl) (hM.on rfl) (sm_h4 h),
    fr_h5 (hC.on rfl) (hM.on rfl) (sm_h5 h),
    fr_z1  (hM.on rfl) (sm_z1 h),
    fr_z2  (hM.on rfl) (sm_z2 h),
    fr_z3  (hM.on rfl) (sm_z3 h),
    fr_e1 (hC.on rfl) (hM.on rfl) (sm_e1 h),
    fr_e2  (hM.on rfl) (sm_e2 h),
    fr_e3 (hC.on rfl) (hM.on rfl) (sm_e3 h),
    fr_o1  (hM.on rfl) (sm_o1 h),
    fr_o2 (hC.on rfl) (hM.on rfl) (sm_o2 h),
    fr_o3 (hC.on rfl) (hM.on rfl) (sm_o3 h),
    fr_o4 (hC.on rfl) (hM.on rfl) (sm_o4 h),
    fr_o5 (hC.on rfl) (hM.on rfl) (sm_o5 h),
    fr_o6  (hM.on rfl) (sm_o6 h),
    fr_g1 (hC.on rfl) (hM.on rfl) (sm_g1 h),
    fr_d1 (hC.on rfl) (hM.on rfl) (sm_d1 h),
    fr_t1 (hC.on rfl) (hM.on rfl) (sm_t1 h),
    fr_x1 hCt hMt (sm_x1 h),
    (by unfold f_a1; simp only [uI_I, uL_L, uR_R, uI_L, uI_R, uL_I, uL_R, uR_I, uR_L, Nat.reduceEqDiff, false_and, and_false, true_and, and_true, ↓reduceIte]),
    fr_a2 (hC.on rfl) (hM.on rfl) (sm_a2 h),
    fr_p1 (hC.on rfl) (hM.on rfl) (sm_p1 h),
    fr_p2 (hC.on rfl) (hM.on rfl) (sm_p2 h)⟩
  have ht : mgI (msI M 1251 0 0 (0 : Int32)) 1251 0 0 = nI 0 := by simp only [uI_I, uL_L, uR_R, uI_L, uI_R, uL_I, uL_R, uR_I, uR_L, Nat.reduceEqDiff, false_and, and_false, true_and, and_true, ↓reduceIte]; rfl
  generalize msI C 1 0 0 (0 : Int32) = C1 at h1 ⊢
  generalize msI M 1251 0 0 (0 : Int32) = M1 at h1 ht ⊢
  rcases st_c h1 a1 with ⟨s, hs, -, rfl, e1, e2⟩ | ⟨e1, e2⟩
  · rw [e1, e2]
    simp only [bd_u, oc_SU]
    rw [if_neg one_ne]
    rcases rg_c a2 0 3 (by decide) (by decide) with ⟨q1, q2⟩ | ⟨q1, q2⟩ | ⟨w, -, hw, rfl⟩
    · rw [if_pos (show a2 < 0 from q1), in_lo (show a2 < 0 from q1)]
      exact QA_same h1 rfl rfl
    · rw [in_hi (show (3 : Int32) < a2 from q1)]
      by_cases h3 : a2 < 0
      · rw [if_pos h3]; exact QA_same h1 rfl rfl
      · rw [if_neg h3, if_neg (show ¬ a2 ≤ 3 from q2)]; exact QA_same h1 rfl rfl
    · rw [show fX12_in (nI w) 0 3 = 1 from in_ok (lo := 0) (hi := 3) (Nat.zero_le _) hw (by decide), if_neg one_ne, if_neg (nI_pos (by omega)), if_pos (show nI w ≤ 3 from nI_le hw (by decide)), kn_C h1 hs]
      obtain ⟨M2, m1, m2⟩ := kn_M h1 hs
      rw [m1]
      obtain ⟨k, hk, ek, hk2⟩ := kN_q h1 hs
      rw [ek]
      simp only [bd_u, bE_u]
      obtain ⟨C2, c1, c2, c3, c4, c5⟩ := doAs_q h1 hs hk hk2 (nI w) a3
      rw [c1]
      have fC2 : FrC C1 C2 := FrC.of (c2.wide (by decide))
      have fM3 : FrM M1 (msI M2 1253 0 0 (nI k)) := (frS m2).I (by decide)
      have hA : AJ C2 (msI M2 1253 0 0 (nI k)) nS nL k s 0 := ⟨h1.fr fC2 fM3, c3, c4, fun z => by rw [fM3.i (f := 5900) rfl]; exact c5 z, by simp only [uI_I, uL_L, uR_R, uI_L, uI_R, uL_I, uL_R, uR_I, uR_L, Nat.reduceEqDiff, false_and, and_false, true_and, and_true, ↓reduceIte], by rw [fM3.i (f := 1251) rfl]; exact ht⟩
      generalize msI M2 1253 0 0 (nI k) = M3 at hA ⊢
      have fin : ∀ x y, JA nS nL k s 0 11 x y → QA nS nL (bE (bE x fun b11 M12 => some (b11, M12)) fun b7 M8 => some (b7, M8)) (bE y fun b M => some (b, M)) := fun x y ⟨r, C', M', t', j1, j2, j3, _⟩ => by
        rw [j1, j2]
        exact ⟨r, C', M', rfl, rfl, j3.1⟩
      have wk : ∀ K x y, K ≤ 11 → JA nS nL k s 0 K x y → JA nS nL k s 0 11 x y := fun K x y hK ⟨r, C', M', t', j1, j2, j3, j4⟩ => ⟨r, C', M', t', j1, j2, j3, by omega⟩
      have hw4 : w = 0 ∨ w = 1 ∨ w = 2 ∨ w = 3 := by omega
      unfold fX0_runT
      rcases hw4 with rfl | rfl | rfl | rfl
      · rw [if_pos (show nI 0 = 0 from rfl)]
        exact fin _ _ (wk 2 _ _ (by omega) (st_q hs hk (d := 0) (by omega) (by omega) 24 a3 hA))
      · rw [if_neg (show ¬ nI 1 = 0 by decide), if_pos (show nI 1 = 1 from rfl)]
        exact fin _ _ (wk 4 _ _ (by omega) (fa2_q hs hk (d := 0) (by omega) (by omega) 22 a3 hA))
      · rw [if_neg (show ¬ nI 2 = 0 by decide), if_neg (show ¬ nI 2 = 1 by decide), if_pos (show nI 2 = 2 from rfl)]
        exact fin _ _ (wk 5 _ _ (by omega) (hb_q hs hk (d := 0) (by omega) (by omega) 22 a3 hA))
      · rw [if_neg (show ¬ nI 3 = 0 by decide), if_neg (show ¬ nI 3 = 1 by decide), if_neg (show ¬ nI 3 = 2 by decide)]
        exact fin _ _ (wk 11 _ _ (by omega) (te_q hs hk (d := 0) (by omega) (by omega) 20 a3 hA))
  · rw [e1, e2]
    exact QA_same h1 rfl rfl
/-! taken -/
theorem und_q : ∀ k, k < 7 → ∀ j, j < 7 → fX11_isUnder_l4 (nI j) FU (nI k) (0 : Int32) = some (fX12_isUnder (nI k) (nI j)) := by decide +kernel
theorem qs_taken {C M : Mem} {nS nL : Nat} (h : Sim C M nS nL) (a1 a2 : Int32) : ∃ r M', fX11_taken a1 a2 C = some r ∧ fX12_taken a1 a2 M = some (r, M') ∧ Sim C M' nS nL := by
  have hb : nS ≤ 64 ∧ nL ≤ 200 := sm_b1 h
  unfold fX11_taken fX12_taken
  rcases pl_c a1 with ⟨q, hq, rfl, e1, e2⟩ | ⟨e1, e2⟩
  · rw [e1, e2]
    simp only [nm_u]
    rw [if_neg one_ne, if_neg one_ne]
    rcases rg_c a2 0 6 (by decide) (by decide) with ⟨q1, q2⟩ | ⟨q1, q2⟩ | ⟨j, -, hj, rfl⟩
    · rw [if_pos (show a2 < 0 from q1), in_lo (show a2 < 0 from q1)]
      exact ⟨_, _, rfl, rfl, h⟩
    · rw [in_hi (show (6 : Int32) < a2 from q1)]
      by_cases h3 : a2 < 0
      · rw [if_pos h3]; exact ⟨_, _, rfl, rfl, h⟩
      · rw [if_neg h3, if_neg (show ¬ a2 ≤ 6 from q2)]; exact ⟨_, _, rfl, rfl, h⟩
    · rw [show fX12_in (nI j) 0 6 = 1 from in_ok (lo := 0) (hi := 6) (Nat.zero_le _) hj (by decide), if_neg one_ne, if_neg (nI_pos (by omega)), if_pos (show nI j ≤ 6 from nI_le hj (by decide))]
      simp only [fX6_isEmpty, fX6_stoneIn, nI_clamp (show q < 2 ^ 31 by omega), ix_n (show q < 6 by omega) (show 6 < 2 ^ 31 by omega)]
      rcases sm_p1 h q hq with ⟨c1, m1⟩ | ⟨s, hs, c1, c2, m1⟩ | ⟨e, z, he, hz, c1, m1, c2, m2⟩
      · rw [c1, m1]
        exact ⟨_, _, rfl, rfl, h⟩
      · obtain ⟨f1, f2, f3⟩ := s_f s (by omega)
        obtain ⟨g1, g2, g3, g4⟩ := five_f
        rw [c1, m1, if_neg g1, if_neg f1, if_neg f2, if_pos g4, c2]
        simp only [bd_u, ↓reduceIte]
        rcases st_c h (nI s) with ⟨s', hs', -, es, d1, -⟩ | ⟨-, d2⟩
        · have : s' = s := (nI_eq (by omega) (by omega)).mp es.symm
          subst this
          rw [d1]
          simp only [bd_u, oc_SU]
          rw [kn_C h hs]
          obtain ⟨M1, m3, m4⟩ := kn_M h hs
          rw [m3]
          obtain ⟨k, hk, ek, -⟩ := kN_q h hs
          rw [ek]
          simp only [bd_u, bE_u]
          unfold fX11_isUnder
          rw [und_q k hk j (by omega)]
          simp only [bd_u]
          have h1 : Sim C M1 nS nL := h.fr FrC.refl (frS m4)
          by_cases hu : fX12_isUnder (nI k) (nI j) = 0
          · rw [if_pos hu, if_pos hu]
            exact ⟨_, _, rfl, rfl, h1⟩
          · rw [if_neg hu, if_neg hu, (frS m4).i (f := 8900) rfl, m1]
            obtain ⟨M2, m5, m6⟩ := kn_M h1 hs
            rw [m5]
            have ek2 : kN C M1 s' = nI k := by
              rw [← ek]
              unfold kN sB
              rw [(frS m4).i (f := 5000) rfl, (frS m4).i (f := 5700) rfl, (frS m4).i (f := 5400) rfl]
            rw [ek2]
            exact ⟨_, _, rfl, rfl, h1.fr FrC.refl (frS m6)⟩
        · exfalso
          unfold fX12_isStone at d2
          simp only [nm_u, (sm_c2 h).1] at d2
          rw [show nI nS - (1 : Int32) = nI (nS - 1) from pk_sub (b := 1) (by omega), show fX12_in (nI s) 0 (nI (nS - 1)) = 1 from in_ok (lo := 0) (Nat.zero_le _) (by omega) (by omega)] at d2
          exact one_ne d2
      · obtain ⟨f1, f2, f3, f4, f5, f6, f7, f8⟩ := ng_f e (by omega)
        rw [c1, m1, if_neg f4, if_neg f1, if_pos f2, if_neg f8]
        simp only [bd_u, ↓reduceIte]
        have : fX5_stoneAt (-1 : Int32) C = some none := by
          unfold fX5_stoneAt
          rw [if_pos (by decide)]
        rw [this]
        exact ⟨_, _, rfl, rfl, h⟩
  · rw [e1, e2]
    exact ⟨_, _, rfl, rfl, h⟩
