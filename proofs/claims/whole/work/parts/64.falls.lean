/-! the i-th that has a property -/
def scn (p : Nat → Bool) (i : Int32) (e : Nat → Int32) : Nat → Nat → Nat → Int32
  | 0, _, c => e c
  | d + 1, n, c => if p n = true then (if nI c = i then nI n else scn p i e d (n + 1) (c + 1)) else scn p i e d (n + 1) c
theorem scn_l {ρ : Type} (F : Nat → Nat → Nat → Option ρ) (G : Int32 → ρ) (p : Nat → Bool) (i : Int32) (e : Nat → Int32) (N : Nat) (hx : ∀ m c, F (m + 1) c N = some (G (e c))) (h1 : ∀ m c n, n < N → p n = true → nI c = i → F (m + 1) c n = some (G (nI n)))
    (h2 : ∀ m c n, n < N → p n = true → ¬ nI c = i → F (m + 1) c n = F m (c + 1) (n + 1)) (h3 : ∀ m c n, n < N → ¬ p n = true → F (m + 1) c n = F m c (n + 1)) : ∀ d n c m, n + d = N → d < m → F m c n = some (G (scn p i e d n c)) := by
  intro d
  induction d with
  | zero =>
    intro n c m hn hm
    obtain ⟨m, rfl⟩ : ∃ k, m = k + 1 := ⟨m - 1, by omega⟩
    have : n = N := by omega
    subst this
    exact hx m c
  | succ d ih =>
    intro n c m hn hm
    obtain ⟨m, rfl⟩ : ∃ k, m = k + 1 := ⟨m - 1, by omega⟩
    unfold scn
    by_cases hp : p n = true
    · rw [if_pos hp]
      by_cases hc : nI c = i
      · rw [if_pos hc]
        exact h1 m c n (by omega) hp hc
      · rw [if_neg hc, h2 m c n (by omega) hp hc]
        exact ih (n + 1) (c + 1) m (by omega) (by omega)
    · rw [if_neg hp, h3 m c n (by omega) hp]
      exact ih (n + 1) c m (by omega) (by omega)
theorem scn_lt {p : Nat → Bool} {i : Int32} {e : Nat → Int32} (hi : i < 0) : ∀ d n c, c + d < 2 ^ 31 → scn p i e d n c = e (c + ctU (fun k => p (n + k)) d)
  | 0, n, c, _ => rfl
  | d + 1, n, c, h => by
    unfold scn
    rw [ctU_front]
    have e1 : (fun k => p (n + (k + 1))) = (fun k => p (n + 1 + k)) := funext fun k => by rw [Nat.add_assoc, Nat.add_comm 1 k]
    rw [e1]
    by_cases hp : p n = true
    · rw [if_pos hp, if_neg (fun z => by rw [← z] at hi; exact nI_pos (by omega) hi), scn_lt hi d (n + 1) (c + 1) (by omega), if_pos (by simpa using hp), Nat.add_assoc]
    · rw [if_neg hp, scn_lt hi d (n + 1) c (by omega), if_neg (by simpa using hp), Nat.zero_add]
theorem scn_cong {p q : Nat → Bool} {i : Int32} {e e' : Nat → Int32} (he : ∀ c, e c = e' c) : ∀ d n c, (∀ k, n ≤ k → k < n + d → p k = q k) → scn p i e d n c = scn q i e' d n c
  | 0, n, c, _ => he c
  | d + 1, n, c, h => by
    unfold scn
    rw [h n (Nat.le_refl _) (by omega), scn_cong he d (n + 1) (c + 1) (fun k h1 h2 => h k (by omega) (by omega)), scn_cong he d (n + 1) c (fun k h1 h2 => h k (by omega) (by omega))]
theorem scn_no {p : Nat → Bool} {i : Int32} {e : Nat → Int32} : ∀ d n c, (∀ k, n ≤ k → k < n + d → p k = false) → scn p i e d n c = e c
  | 0, n, c, _ => rfl
  | d + 1, n, c, h => by
    unfold scn
    rw [if_neg (by rw [h n (Nat.le_refl _) (by omega)]; decide), scn_no d (n + 1) c (fun k h1 h2 => h k (by omega) (by omega))]
theorem scn_ext {p : Nat → Bool} {i : Int32} {v : Int32} : ∀ d d' n c, (∀ k, n + d ≤ k → k < n + d + d' → p k = false) → scn p i (fun _ => v) (d + d') n c = scn p i (fun _ => v) d n c
  | 0, d', n, c, h => by
    rw [Nat.zero_add, scn_no d' n c (fun k h1 h2 => h k (by omega) (by omega))]
    rfl
  | d + 1, d', n, c, h => by
    rw [show d + 1 + d' = (d + d') + 1 by omega]
    unfold scn
    rw [scn_ext d d' (n + 1) (c + 1) (fun k h1 h2 => h k (by omega) (by omega)), scn_ext d d' (n + 1) c (fun k h1 h2 => h k (by omega) (by omega))]
/-- how many (i -1), the i-th, or BAD -/
def ans (p : Nat → Bool) (N : Nat) (i : Int32) : Int32 := if i = -1 then nI (ctU p N) else if i < 0 then -1 else scn p i (fun _ => -1) N 0 0
theorem nth_ans {x : Int64} {p : Nat → Bool} {N : Nat} (hN : N ≤ 64) (hx : ∀ k, k < 64 → hB x k = (decide (k < N) && p k)) (i : Int32) : fX11_nth x i = some (ans p N i) := by
  unfold fX11_nth ans
  have hin : ∀ k, k < N → hB x k = p k := fun k hk => by rw [hx k (by omega), decide_eq_true hk, Bool.true_and]
  have hout : ∀ k, N ≤ k → k < 64 → hB x k = false := fun k h1 h2 => by rw [hx k h2, decide_eq_false (by omega), Bool.false_and]
  by_cases h1 : i = -1
  · rw [if_pos h1, if_pos h1, pop64, ctU_ext hN hout, ctU_cong hin]
  · rw [if_neg h1, if_neg h1]
    have hl := scn_l (fun m c n => fX11_nth_l15 x i m (nI c) (nI n)) (fun r => r) (hB x) i (fun _ => -1) 64
      (fun m c => by
        simp only [fX11_nth_l15, fX11_nth_b15]
        rw [if_pos (show (64 : Int32) ≤ nI 64 by decide)])
      (fun m c n hn hp hc => by
        simp only [fX11_nth_l15, fX11_nth_b15, nm_u]
        rw [if_neg (show ¬ (64 : Int32) ≤ nI n from nI_ge (b := 64) hn (by decide)), if_neg (fun z => by rw [isIn_0 _ hn] at z; rw [hp] at z; cases z), if_pos hc])
      (fun m c n hn hp hc => by
        simp only [fX11_nth_l15, fX11_nth_b15, nm_u, nI_1]
        rw [if_neg (show ¬ (64 : Int32) ≤ nI n from nI_ge (b := 64) hn (by decide)), if_neg (fun z => by rw [isIn_0 _ hn] at z; rw [hp] at z; cases z), if_neg hc])
      (fun m c n hn hp => by
        simp only [fX11_nth_l15, fX11_nth_b15, nm_u, nI_1]
        rw [if_neg (show ¬ (64 : Int32) ≤ nI n from nI_ge (b := 64) hn (by decide)), if_pos ((isIn_0 _ hn).mpr (by simpa using hp))])
      64 0 0 FU rfl (FU_lt (by omega))
    refine hl.trans ?_
    by_cases h2 : i < 0
    · rw [if_pos h2, scn_lt h2 64 0 0 (by omega)]
    · rw [if_neg h2, show (64 : Nat) = N + (64 - N) by omega, scn_ext N (64 - N) 0 0 (fun k h3 h4 => hout k (by omega) (by omega)), scn_cong (fun _ => rfl) N 0 0 (fun k _ h4 => hin k (by omega))]
theorem ge_m1 {i : Int32} (h : (-1 : Int32) ≤ i) : i = -1 ∨ (¬ i = -1 ∧ ¬ i < 0 ∧ 0 ≤ i) := by
  by_cases e : i = -1
  · exact Or.inl e
  · refine Or.inr ⟨e, ?_⟩
    have h1 := Int32.le_iff_toInt_le.mp h
    have h2 : ¬ i.toInt = -1 := fun z => e (Int32.toInt_inj.mp (z.trans (by decide)))
    have h3 : (-1 : Int32).toInt = -1 := by decide
    have h4 : (0 : Int32) ≤ i := Int32.le_iff_toInt_le.mpr (by rw [show (0 : Int32).toInt = 0 by decide]; omega)
    exact ⟨Int32.not_lt.mpr h4, h4⟩
/-- the reference's answer at the end of its count -/
theorem ans_end {p : Nat → Bool} {N : Nat} {i : Int32} (hN : N < 2 ^ 31) (h : (-1 : Int32) ≤ i) : scn p i (fun c => if 0 ≤ i then -1 else nI c) N 0 0 = ans p N i := by
  unfold ans
  rcases ge_m1 h with e | ⟨e1, e2, e3⟩
  · rw [if_pos e, scn_lt (by rw [e]; decide) N 0 0 (by omega), if_neg (by rw [e]; decide), Nat.zero_add]
    congr 2
    funext k
    rw [Nat.zero_add]
  · rw [if_neg e1, if_neg e2]
    exact scn_cong (fun c => if_pos e3) N 0 0 (fun _ _ _ => rfl)
/-! sets of stones that count, that say yes -/
theorem cg_C {C : Mem} {nS : Nat} (hb : nS ≤ 64) (hm : mgI C 502 0 0 = nI nS) : fX9_counting C = some (orU (fun n => decide (¬ mgI C 4100 0 n ≤ 0)) nS) := by
  unfold fX9_counting
  refine lpT (fun n i (x : Int64) => fX9_counting_l4 C n x (nI i)) nS (fun i => orU (fun n => decide (¬ mgI C 4100 0 n ≤ 0)) i) _ (fun n => ?_) (fun n i hi => ?_) FU 0 (Nat.zero_le _) (FU_lt (by omega))
  · simp only [fX9_counting_l4, fX9_counting_b4]
    rw [hm, if_pos (nI_le (Nat.le_refl _) (by omega))]
  · simp only [fX9_counting_l4, fX9_counting_b4]
    rw [hm, if_neg (nI_ge hi (by omega))]
    simp only [nm_u, ix_n (show i < 64 by omega) (show 64 < 2 ^ 31 by omega), nI_clamp (show i < 2 ^ 31 by omega), nI_1]
    by_cases e : mgI C 4100 0 i ≤ 0
    · rw [if_pos e, orU_n (by simpa using e)]
    · rw [if_neg e, orU_y (by simpa using e)]
/-- RULED ones that say yes -/
def yeS (M : Mem) (cn wo : Nat → Int32) (n : Nat) : Bool := decide (mgI M 5000 0 n = 3 ∧ ysB M cn wo n = 1)
theorem sy_C {C M : Mem} {nS nL : Nat} (h : Sim C M nS nL) {lies stand : Int64} {cn wo hw : Nat → Int32} (hc : CnP M nS nL lies stand cn wo hw) {C' : Mem} (hE : EqOff [4100, 4200] C C') (e1 : ∀ s, s < nS → mgI C' 4100 0 s = cn s ∧ mgI C' 4200 0 s = wC wo hw s) : fX9_sayingYes C' = some (orU (yeS M cn wo) nS) := by
  have hb : nS ≤ 64 ∧ nL ≤ 200 := sm_b1 h
  have g := hE.on (K := [502, 801, 3200]) rfl
  have hm : mgI C' 502 0 0 = nI nS := by rw [(g 502 (by decide)).1]; exact (sm_c1 h).1
  unfold fX9_sayingYes
  refine lpT (fun n i (x : Int64) => fX9_sayingYes_l4 C' n x (nI i)) nS (fun i => orU (yeS M cn wo) i) _ (fun n => ?_) (fun n i hi => ?_) FU 0 (Nat.zero_le _) (FU_lt (by omega))
  · simp only [fX9_sayingYes_l4, fX9_sayingYes_b4]
    rw [hm, if_pos (nI_le (Nat.le_refl _) (by omega))]
  · simp only [fX9_sayingYes_l4, fX9_sayingYes_b4]
    rw [hm, if_neg (nI_ge hi (by omega))]
    simp only [nm_u, ix_n (show i < 64 by omega) (show 64 < 2 ^ 31 by omega), nI_clamp (show i < 2 ^ 31 by omega), nI_1, (g 3200 (by decide)).2.2, sm_r1 h i hi, oc_SU, (g 801 (by decide)).1, sm_sK h i hi, ys_C h hc hi hE (e1 i hi).1 (e1 i hi).2, bd_u]
    have hd : yeS M cn wo i = decide (mgI M 5000 0 i = 3 ∧ ysB M cn wo i = 1) := rfl
    by_cases e : mgI M 5000 0 i = 3
    · rw [if_pos e]
      rcases ys_01 M cn wo i with e2 | e2
      · rw [if_pos e2, orU_n (by rw [hd, e2]; simp)]
      · rw [e2, if_neg one_ne, orU_y (by rw [hd, e2]; simp [e])]
    · rw [if_neg e, orU_n (by rw [hd]; simp [e])]
