/-! the choice by standing: again and again the first of the greatest -/
def am (p : Nat → Bool) (w : Nat → Nat) : Nat → Option Nat
  | 0 => none
  | n + 1 => if p n = true then (match am p w n with | none => some n | some b => if w n ≤ w b then some b else some n) else am p w n
theorem am_s {p : Nat → Bool} {w : Nat → Nat} : ∀ {n b : Nat}, am p w n = some b → b < n ∧ p b = true
  | 0, b, h => absurd h (by simp [am])
  | n + 1, b, h => by
    unfold am at h
    by_cases e : p n = true
    · rw [if_pos e] at h
      cases ha : am p w n with
      | none => rw [ha] at h; simp only [Option.some.injEq] at h; subst h; exact ⟨by omega, e⟩
      | some c =>
        rw [ha] at h
        have hc := am_s ha
        simp only at h
        by_cases e2 : w n ≤ w c
        · rw [if_pos e2, Option.some.injEq] at h; subst h; exact ⟨by omega, hc.2⟩
        · rw [if_neg e2, Option.some.injEq] at h; subst h; exact ⟨by omega, e⟩
    · rw [if_neg e] at h
      have := am_s h
      exact ⟨by omega, this.2⟩
theorem am_0 {p : Nat → Bool} {w : Nat → Nat} : ∀ {n : Nat}, am p w n = none → ctU p n = 0
  | 0, _ => rfl
  | n + 1, h => by
    unfold am at h
    by_cases e : p n = true
    · rw [if_pos e] at h
      cases ha : am p w n with
      | none => rw [ha] at h; exact absurd h (by simp)
      | some c =>
        rw [ha] at h
        simp only at h
        by_cases e2 : w n ≤ w c
        · rw [if_pos e2] at h; exact absurd h (by simp)
        · rw [if_neg e2] at h; exact absurd h (by simp)
    · rw [if_neg e] at h
      rw [ctU_add p n 1, am_0 h, ctU_front]
      simp [e, ctU]
theorem ct_out {p q : Nat → Bool} {b : Nat} (hp : p b = true) (hq : ∀ i, q i = (p i && !decide (i = b))) : ∀ {n : Nat}, b < n → ctU p n = ctU q n + 1 := by
  intro n hb
  have h := ctU_or (p := q) (q := fun i => decide (i = b)) (r := p) (N := n) (fun k hk => by
    rw [hq k]
    by_cases e : k = b
    · subst e; simp [hp]
    · simp [e])
  rw [h]
  congr 1
  obtain ⟨d, rfl⟩ : ∃ d, n = b + (1 + d) := ⟨n - b - 1, by omega⟩
  rw [ctU_add, ctU_add, ctU_no (fun k hk => decide_eq_false (by omega)), ctU_front, ctU_no (p := fun k => decide (b + (1 + k) = b)) (fun k hk => decide_eq_false (by omega))]
  simp [ctU]
theorem nn0 {n : Nat} (h : n < 2 ^ 31) : (0 : Int32) ≤ nI n := Int32.not_lt.mp (nI_pos h)
/-- the greatest of the row of counts -/
theorem gr_q {C1 : Mem} {nS : Nat} (hn : nS ≤ 64) (c1 : mgI C1 502 0 0 = nI nS) {p : Nat → Bool} {w : Nat → Nat} (hw : ∀ i, w i ≤ 64) (hv : ∀ i, i < nS → mgI C1 3400 0 i = if p i = true then nI (w i) else -1) : fX5_greatest C1 = some (match am p w nS with | none => -1 | some b => nI b) := by
  have H := lpT (fun m k (y : Int32 × Int32) => fX5_greatest_l6 C1 m y.1 y.2 (nI k)) nS (fun k => match am p w k with | none => ((-1 : Int32), (-1 : Int32)) | some b => (nI b, nI (w b))) (some (match am p w nS with | none => -1 | some b => nI b)) (fun m => ?_) (fun m k hk => ?_) FU 0 (Nat.zero_le _) (FU_lt (by omega))
  · exact H
  · simp only [fX5_greatest_l6, fX5_greatest_b6]
    rw [c1, if_pos (nI_le (Nat.le_refl _) (by omega))]
    cases am p w nS <;> rfl
  · simp only [fX5_greatest_l6, fX5_greatest_b6, nm_u]
    rw [c1, if_neg (nI_ge hk (by omega)), ix_n (by omega) (by omega), ix_n (by omega) (by omega), nI_clamp (by omega), hv k hk, nI_1]
    rw [show am p w (k + 1) = if p k = true then (match am p w k with | none => some k | some b => if w k ≤ w b then some b else some k) else am p w k from rfl]
    by_cases e : p k = true
    · rw [if_pos e, if_pos e]
      cases ha : am p w k with
      | none =>
        simp only
        rw [if_neg (show ¬ nI (w k) ≤ -1 from fun z => absurd (Int32.le_trans (nn0 (n := w k) (by have := hw k; omega)) z) (by decide))]
      | some b =>
        simp only
        by_cases e2 : w k ≤ w b
        · rw [if_pos e2, if_pos (nI_le e2 (by have := hw b; omega))]
        · rw [if_neg e2, if_neg (nI_ge (by omega) (by have := hw k; omega))]
    · rw [if_neg e, if_neg e]
      cases ha : am p w k with
      | none =>
        simp only
        rw [if_pos (Int32.le_refl _)]
      | some b =>
        simp only
        rw [if_pos (Int32.le_trans (show (-1 : Int32) ≤ 0 by decide) (nn0 (n := w b) (by have := hw b; omega)))]
