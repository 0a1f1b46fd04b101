/-! the reference's choice -/
def wS (M5 : Mem) (i : Nat) : Nat := ctU (hB (mgL M5 6500 0 i)) 64
theorem wS_le (M5 : Mem) (i : Nat) : wS M5 i ≤ 64 := ctU_le _ _
theorem hd_M {C M M5 : Mem} {nS nL : Nat} (h : Sim C M nS nL) (h87 : mgI M5 8700 = mgI M 8700) (h50 : mgI M5 5000 = mgI M 5000) (h54 : mgI M5 5400 = mgI M 5400) (hc : mgI M5 1202 0 0 = nI nS) {y : Int32} {U : Nat → Bool} {j : Int64} (hj : ∀ i, i < 64 → hB j i = U i) {p : Nat → Bool} (hp : ∀ i, p i = (fiP C M y i && !U i)) (i11 x2 : Int32) (k10 : Int32 → Int64 → Option (Int32 × Mem)) :
    fX12_hands_l77 M5 i11 x2 j k10 y FU (-1 : Int32) (0 : Int32) = match am p (wS M5) nS with | none => (if 0 ≤ x2 then some ((-1 : Int32), M5) else some (i11, M5)) | some b => (if i11 = x2 then some (nI b, M5) else k10 (i11 + 1) (j ||| fX11_bit (nI b))) := by
  have hb : nS ≤ 64 ∧ nL ≤ 200 := sm_b1 h
  have H := lpT (fun m k (z : Int32) => fX12_hands_l77 M5 i11 x2 j k10 y m z (nI k)) nS (fun k => match am p (wS M5) k with | none => (-1 : Int32) | some b => nI b) (match am p (wS M5) nS with | none => (if 0 ≤ x2 then some ((-1 : Int32), M5) else some (i11, M5)) | some b => (if i11 = x2 then some (nI b, M5) else k10 (i11 + 1) (j ||| fX11_bit (nI b)))) (fun m => ?_) (fun m k hk => ?_) FU 0 (Nat.zero_le _) (FU_lt (by omega))
  · exact H
  · simp only [fX12_hands_l77, fX12_hands_b77, nm_u]
    rw [hc, if_pos (nI_le (Nat.le_refl _) (by omega))]
    cases ha : am p (wS M5) nS with
    | none =>
      simp only
      rw [if_neg (show ¬ (0 : Int32) ≤ -1 by decide)]
    | some b =>
      have hb2 := (am_s ha).1
      simp only
      rw [if_pos (nn0 (n := b) (by omega))]
      rfl
  · simp only [fX12_hands_l77, fX12_hands_b77, nm_u]
    rw [hc, if_neg (nI_ge hk (by omega))]
    simp only [ix_n (show k < 64 by omega) (show 64 < 2 ^ 31 by omega), nI_clamp (show k < 2 ^ 31 by omega), h50, h54, hO_q h h87 hk, bd_u, onb_q j (show k < 64 by omega), hj k (by omega), nI_1]
    rw [show am p (wS M5) (k + 1) = if p k = true then (match am p (wS M5) k with | none => some k | some b => if wS M5 k ≤ wS M5 b then some b else some k) else am p (wS M5) k from rfl]
    have hpk := hp k
    by_cases e1 : mgI M 5000 0 k = 1
    · rw [if_pos e1]
      by_cases e2 : 0 ≤ mgI M 5400 0 k
      · rw [if_pos e2, if_neg (show ¬ p k = true by rw [hpk]; simp [fiP, e2])]
      · rw [if_neg e2]
        by_cases e3 : U k = true
        · rw [if_pos e3, if_neg (show ¬ p k = true by rw [hpk]; simp [e3])]
        · rw [if_neg e3]
          by_cases e4 : mgI C 806 k 0 &&& y = 0
          · rw [if_pos e4, if_neg (show ¬ p k = true by rw [hpk]; simp [fiP, e4])]
          · rw [if_neg e4, if_pos (show p k = true by rw [hpk]; simp [fiP, e1, e2, e3, e4])]
            cases ha : am p (wS M5) k with
            | none =>
              simp only
              rw [if_pos (show (-1 : Int32) < 0 by decide)]
            | some b =>
              have hb2 := (am_s ha).1
              simp only
              rw [if_neg (nI_pos (show b < 2 ^ 31 by omega)), bitsOf_q]
              simp only [bd_u]
              rw [ix_n (show b < 64 by omega) (by omega), nI_clamp (show b < 2 ^ 31 by omega), bitsOf_q]
              simp only [bd_u]
              by_cases e5 : wS M5 k ≤ wS M5 b
              · rw [if_pos e5, if_pos (nI_le (show ctU (hB (mgL M5 6500 0 k)) 64 ≤ ctU (hB (mgL M5 6500 0 b)) 64 from e5) (by have := ctU_le (hB (mgL M5 6500 0 b)) 64; omega))]
              · rw [if_neg e5, if_neg (nI_ge (show ctU (hB (mgL M5 6500 0 b)) 64 < ctU (hB (mgL M5 6500 0 k)) 64 from Nat.lt_of_not_le e5) (by have := ctU_le (hB (mgL M5 6500 0 k)) 64; omega))]
    · rw [if_neg e1, if_neg (show ¬ p k = true by rw [hpk]; simp [fiP, e1])]
/-- where the choice runs out -/
theorem hx_M {C M M5 : Mem} {nS nL : Nat} (h : Sim C M nS nL) (h87 : mgI M5 8700 = mgI M 8700) (h50 : mgI M5 5000 = mgI M 5000) (h54 : mgI M5 5400 = mgI M 5400) (hc : mgI M5 1202 0 0 = nI nS) {y x2 : Int32} {N : Nat} (hN : N ≤ 64) (hx : x2 = -1 ∨ ∃ x, x < 2 ^ 31 ∧ x2 = nI x ∧ N ≤ x) : ∀ (d k : Nat) (U : Nat → Bool) (j : Int64) (m : Nat), k + d = N → ctU (fun i => fiP C M y i && !U i) nS = d → (∀ i, i < 64 → hB j i = U i) → d < m →
    fX12_hands_l71 M5 x2 y m (nI k) j = some (if 0 ≤ x2 then -1 else nI N, M5) := by
  have hb : nS ≤ 64 ∧ nL ≤ 200 := sm_b1 h
  intro d
  induction d with
  | zero =>
    intro k U j m hk hd hj hm
    obtain ⟨m, rfl⟩ : ∃ t, m = t + 1 := ⟨m - 1, by omega⟩
    simp only [fX12_hands_l71, fX12_hands_b71]
    rw [hd_M h h87 h50 h54 hc hj (fun i => rfl)]
    cases ha : am (fun i => fiP C M y i && !U i) (wS M5) nS with
    | none =>
      simp only
      have : k = N := by omega
      rw [this]
      by_cases e : 0 ≤ x2
      · rw [if_pos e, if_pos e]
      · rw [if_neg e, if_neg e]
    | some b =>
      exfalso
      obtain ⟨b1, b2⟩ := am_s ha
      have := ct_out (p := fun i => fiP C M y i && !U i) (q := fun i => (fiP C M y i && !U i) && !decide (i = b)) b2 (fun i => rfl) b1
      omega
  | succ d ih =>
    intro k U j m hk hd hj hm
    obtain ⟨m, rfl⟩ : ∃ t, m = t + 1 := ⟨m - 1, by omega⟩
    simp only [fX12_hands_l71, fX12_hands_b71]
    rw [hd_M h h87 h50 h54 hc hj (fun i => rfl)]
    cases ha : am (fun i => fiP C M y i && !U i) (wS M5) nS with
    | none =>
      have := am_0 ha
      omega
    | some b =>
      obtain ⟨b1, b2⟩ := am_s ha
      have hct := ct_out (p := fun i => fiP C M y i && !U i) (q := fun i => fiP C M y i && !(U i || decide (i = b))) b2 (fun i => by cases fiP C M y i <;> cases U i <;> rfl) b1
      simp only
      rw [if_neg (show ¬ nI k = x2 from fun w => by
        rcases hx with rfl | ⟨x, x1, rfl, x2⟩
        · exact absurd w (s_f k (by omega)).1
        · have := (nI_eq (by omega) x1).mp w
          omega), nI_1]
      exact ih (k + 1) (fun i => U i || decide (i = b)) _ m (by omega) (by omega) (fun i hi => by rw [hB_or, hj i hi, hB_bit (by omega)]) (by omega)
