/-! names of stones, as bits -/
theorem us_n : ∀ n, n < 20 → (((nI n).toUInt32 &&& Int32.toUInt32 31).toBitVec % 32).toNat = n := by decide +kernel
theorem bit_n {y n : Nat} (hy : y < 1048576) (hn : n < 20) : ((((nI y).toUInt32 >>> ((nI n).toUInt32 &&& Int32.toUInt32 31)).toInt32) &&& (1 : Int32)) = 0 ↔ y.testBit n = false := by
  rw [pk_ushrN (by omega) (nI n) n (us_n n hn), show (1 : Int32) = nI 1 from rfl, nx_and, Nat.and_one_is_mod, show (0 : Int32) = nI 0 from rfl, nI_eq (by omega) (by omega), Nat.testBit_eq_decide_div_mod_eq]
  have : y / 2 ^ n % 2 < 2 := Nat.mod_lt _ (by omega)
  rw [decide_eq_false_iff_not]
  omega
theorem md_y {x k : Nat} (h : x.testBit k = true) : x % 2 ^ (k + 1) = (x % 2 ^ k) ||| 2 ^ k := by
  apply Nat.eq_of_testBit_eq
  intro i
  rw [Nat.testBit_or, Nat.testBit_mod_two_pow, Nat.testBit_mod_two_pow, Nat.testBit_two_pow]
  by_cases e : k = i
  · subst e; simp [h]
  · have e1 : decide (i < k + 1) = decide (i < k) := by rw [decide_eq_decide]; omega
    rw [e1, decide_eq_false e, Bool.or_false]
theorem md_n {x k : Nat} (h : x.testBit k = false) : x % 2 ^ (k + 1) = x % 2 ^ k := by
  apply Nat.eq_of_testBit_eq
  intro i
  rw [Nat.testBit_mod_two_pow, Nat.testBit_mod_two_pow]
  by_cases e : k = i
  · subst e; simp [h]
  · have e1 : decide (i < k + 1) = decide (i < k) := by rw [decide_eq_decide]; omega
    rw [e1]
theorem nm_le {C M : Mem} {nS nL : Nat} (h : Sim C M nS nL) {s n : Nat} (hs : s < nS) (hn : n < 20) {x : Nat} (hx : ∀ n, x.testBit n = decide (n < 20 ∧ ¬ mgI M 8700 0 (20 * s + n) = 0)) : mgI M 8700 0 (20 * s + n) ≤ 0 ↔ x.testBit n = false := by
  obtain ⟨v, hv, e⟩ := sm_e2 h s n hs hn
  rw [hx n, decide_eq_false_iff_not, e, show (0 : Int32) = nI 0 from rfl, nI_eq (by omega) (by omega)]
  constructor
  · rintro w ⟨-, w2⟩
    exact nI_ge (show 0 < v by omega) (by omega) w
  · intro w
    have : v = 0 := by
      apply Classical.byContradiction
      intro z
      exact w ⟨hn, z⟩
    rw [this]
    exact Int32.le_refl _
theorem hO_q {C M M5 : Mem} {nS nL : Nat} (h : Sim C M nS nL) (h87 : mgI M5 8700 = mgI M 8700) {s : Nat} (hs : s < nS) : fX12_handsOf (nI s) M5 = some (mgI C 806 s 0) := by
  have hb : nS ≤ 64 ∧ nL ≤ 200 := sm_b1 h
  obtain ⟨x, hx, e, hbit⟩ := sm_e3 h s hs
  have H := lpT (fun m k (y : Int32) => fX12_handsOf_l4 (nI s) M5 m y (nI k)) 20 (fun k => nI (x % 2 ^ k)) (some (nI (x % 2 ^ 20))) (fun m => ?_) (fun m k hk => ?_) FU 0 (Nat.zero_le _) (FU_lt (by omega))
  · rw [e]
    rw [Nat.mod_eq_of_lt (show x < 2 ^ 20 by omega)] at H
    have h0 : x % 2 ^ 0 = 0 := by rw [Nat.pow_zero, Nat.mod_one]
    rw [h0] at H
    exact H
  · simp only [fX12_handsOf_l4, fX12_handsOf_b4]
    rw [if_pos (show (20 : Int32) ≤ nI 20 from Int32.le_refl _)]
  · simp only [fX12_handsOf_l4, fX12_handsOf_b4, nm_u]
    obtain ⟨i1, i2⟩ := shx (show s < 64 by omega) hk
    rw [if_neg (show ¬ (20 : Int32) ≤ nI k from nI_ge (a := k) (b := 20) hk (by omega)), i1, ix_n i2 (by omega), nI_clamp (by omega), h87, pw_q k hk, fa_or, nI_1]
    cases ht : x.testBit k
    · rw [if_pos ((nm_le h hs hk hbit).mpr ht), md_n ht]
    · rw [if_neg (fun w => by rw [(nm_le h hs hk hbit).mp w] at ht; exact absurd ht (by decide)), md_y ht]
def nbU (C M : Mem) (n : Nat) : Nat → Int32
  | 0 => 0
  | k + 1 => if mgI M 8700 0 (20 * k + n) ≤ 0 then nbU C M n k else nbU C M n k ||| mgI C 806 k 0
theorem nb_C {C M : Mem} {nS nL : Nat} (h : Sim C M nS nL) {n : Nat} (hn : n < 20) : fX5_namesBeside (nI n) C = some (nbU C M n nS) := by
  have hb : nS ≤ 64 ∧ nL ≤ 200 := sm_b1 h
  refine lpT (fun m k (y : Int32) => fX5_namesBeside_l4 C (nI n) m y (nI k)) nS (fun k => nbU C M n k) (some (nbU C M n nS)) (fun m => ?_) (fun m k hk => ?_) FU 0 (Nat.zero_le _) (FU_lt (by omega))
  · simp only [fX5_namesBeside_l4, fX5_namesBeside_b4]
    rw [(sm_c1 h).1, if_pos (nI_le (Nat.le_refl _) (by omega))]
  · simp only [fX5_namesBeside_l4, fX5_namesBeside_b4, nm_u]
    obtain ⟨x, hx, e, hbit⟩ := sm_e3 h k hk
    rw [(sm_c1 h).1, if_neg (nI_ge hk (by omega)), ix_n (by omega) (by omega), ix_n (by omega) (by omega), nI_clamp (by omega), sm_r1 h k hk]
    simp only [oc_SU]
    rw [nI_1]
    show (if _ then fX5_namesBeside_l4 C (nI n) m (nbU C M n k) (nI (k + 1)) else _) = fX5_namesBeside_l4 C (nI n) m (if mgI M 8700 0 (20 * k + n) ≤ 0 then nbU C M n k else nbU C M n k ||| mgI C 806 k 0) (nI (k + 1))
    rw [e]
    cases ht : x.testBit n
    · rw [if_pos ((nm_le h hk hn hbit).mpr ht), if_pos ((bit_n hx hn).mpr ht)]
    · rw [if_neg (fun w => by rw [(bit_n hx hn).mp w] at ht; exact absurd ht (by decide)), if_neg (fun w => by rw [(nm_le h hk hn hbit).mp w] at ht; exact absurd ht (by decide))]
theorem nb_M {C M M5 : Mem} {nS nL : Nat} (h : Sim C M nS nL) (h87 : mgI M5 8700 = mgI M 8700) (hc : mgI M5 1202 0 0 = nI nS) {n : Nat} (hn : n < 20) (x2 : Int32) : fX12_hands_l26 M5 x2 (nI n) FU (0 : Int32) (0 : Int32) = fX12_hands_l71 M5 x2 (nbU C M n nS) FU (0 : Int32) (0 : Int64) := by
  have hb : nS ≤ 64 ∧ nL ≤ 200 := sm_b1 h
  refine lpT (fun m k (y : Int32) => fX12_hands_l26 M5 x2 (nI n) m y (nI k)) nS (fun k => nbU C M n k) (fX12_hands_l71 M5 x2 (nbU C M n nS) FU (0 : Int32) (0 : Int64)) (fun m => ?_) (fun m k hk => ?_) FU 0 (Nat.zero_le _) (FU_lt (by omega))
  · simp only [fX12_hands_l26, fX12_hands_b26]
    rw [hc, if_pos (nI_le (Nat.le_refl _) (by omega))]
  · simp only [fX12_hands_l26, fX12_hands_b26, nm_u]
    obtain ⟨i1, i2⟩ := shx (show k < 64 by omega) hn
    rw [hc, if_neg (nI_ge hk (by omega)), i1, ix_n i2 (by omega), nI_clamp (by omega), h87, hO_q h h87 hk]
    simp only [bd_u]
    rw [nI_1]
    show (if _ then fX12_hands_l26 M5 x2 (nI n) m (nbU C M n k) (nI (k + 1)) else _) = fX12_hands_l26 M5 x2 (nI n) m (if mgI M 8700 0 (20 * k + n) ≤ 0 then nbU C M n k else nbU C M n k ||| mgI C 806 k 0) (nI (k + 1))
    by_cases e : mgI M 8700 0 (20 * k + n) ≤ 0
    · rw [if_pos e, if_pos e]
    · rw [if_neg e, if_neg e]
/-! the firsts of the names -/
def fiP (C M : Mem) (y : Int32) (i : Nat) : Bool := decide (mgI M 5000 0 i = 1 ∧ ¬ 0 ≤ mgI M 5400 0 i ∧ ¬ mgI C 806 i 0 &&& y = 0)
theorem fi_C {C M : Mem} {nS nL : Nat} (h : Sim C M nS nL) (y : Int32) : fX5_firstsBy y C = some (orU (fiP C M y) nS) := by
  have hb : nS ≤ 64 ∧ nL ≤ 200 := sm_b1 h
  refine lpT (fun m k (x : Int64) => fX5_firstsBy_l5 C y m x (nI k)) nS (fun k => orU (fiP C M y) k) (some (orU (fiP C M y) nS)) (fun m => ?_) (fun m k hk => ?_) FU 0 (Nat.zero_le _) (FU_lt (by omega))
  · simp only [fX5_firstsBy_l5, fX5_firstsBy_b5]
    rw [(sm_c1 h).1, if_pos (nI_le (Nat.le_refl _) (by omega))]
  · simp only [fX5_firstsBy_l5, fX5_firstsBy_b5, nm_u]
    rw [(sm_c1 h).1, if_neg (nI_ge hk (by omega))]
    simp only [ix_n (show k < 64 by omega) (show 64 < 2 ^ 31 by omega), nI_clamp (show k < 2 ^ 31 by omega), sm_r1 h k hk, oc_SU, sm_sK h k hk, sm_sI h k hk]
    rw [nI_1]
    show _ = fX5_firstsBy_l5 C y m (if fiP C M y k = true then orU (fiP C M y) k ||| fX11_bit (nI k) else orU (fiP C M y) k) (nI (k + 1))
    by_cases e1 : mgI M 5000 0 k = 1
    · rw [if_pos e1]
      by_cases e2 : 0 ≤ mgI M 5400 0 k
      · rw [if_pos e2, if_neg (by simp [fiP, e2])]
      · rw [if_neg e2]
        by_cases e3 : mgI C 806 k 0 &&& y = 0
        · rw [if_pos e3, if_neg (by simp [fiP, e3])]
        · rw [if_neg e3, if_pos (by simp [fiP, e1, e2, e3])]
    · rw [if_neg e1, if_neg (by simp [fiP, e1])]
