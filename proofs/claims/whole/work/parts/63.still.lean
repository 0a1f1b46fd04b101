def orU (p : Nat → Bool) : Nat → Int64
  | 0 => 0
  | n + 1 => if p n = true then orU p n ||| fX11_bit (nI n) else orU p n
theorem orU_y {p : Nat → Bool} {n : Nat} (h : p n = true) : orU p (n + 1) = orU p n ||| fX11_bit (nI n) := if_pos h
theorem orU_n {p : Nat → Bool} {n : Nat} (h : ¬ p n = true) : orU p (n + 1) = orU p n := if_neg h
theorem hB_orU {p : Nat → Bool} : ∀ {N : Nat}, N ≤ 64 → ∀ k, hB (orU p N) k = (decide (k < N) && p k)
  | 0, _, k => by
    show hB 0 k = _
    rw [hB_0]
    simp
  | N + 1, h, k => by
    have ih := hB_orU (p := p) (N := N) (by omega) k
    by_cases e : p N = true
    · rw [orU_y e, hB_or, ih, hB_bit (by omega)]
      by_cases ek : k = N
      · subst ek; simp [e]
      · have : decide (k < N + 1) = decide (k < N) := by
          by_cases h2 : k < N
          · rw [decide_eq_true h2, decide_eq_true (by omega)]
          · rw [decide_eq_false h2, decide_eq_false (by omega)]
        rw [this]
        simp [ek]
    · rw [orU_n e, ih]
      by_cases ek : k = N
      · subst ek; simp [e]
      · have : decide (k < N + 1) = decide (k < N) := by
          by_cases h2 : k < N
          · rw [decide_eq_true h2, decide_eq_true (by omega)]
          · rw [decide_eq_false h2, decide_eq_false (by omega)]
        rw [this]
theorem orU_0 {p : Nat → Bool} : ∀ {N : Nat}, (∀ k, k < N → p k = false) → orU p N = 0
  | 0, _ => rfl
  | N + 1, h => by rw [orU_n (by rw [h N (Nat.lt_succ_self N)]; decide), orU_0 (fun k hk => h k (Nat.lt_succ_of_lt hk))]
/-! STILL -/
def tfS (p : Nat → Bool) (tk : Nat → Int32) : Nat → Int32
  | 0 => -1
  | o + 1 => if p o = true ∧ ¬ tk o < 0 ∧ (tfS p tk o < 0 ∨ tk o < tfS p tk o) then tk o else tfS p tk o
theorem tfS_y {p : Nat → Bool} {tk : Nat → Int32} {o : Nat} (h : p o = true ∧ ¬ tk o < 0 ∧ (tfS p tk o < 0 ∨ tk o < tfS p tk o)) : tfS p tk (o + 1) = tk o := if_pos h
theorem tfS_n {p : Nat → Bool} {tk : Nat → Int32} {o : Nat} (h : ¬ (p o = true ∧ ¬ tk o < 0 ∧ (tfS p tk o < 0 ∨ tk o < tfS p tk o))) : tfS p tk (o + 1) = tfS p tk o := if_neg h
theorem tf_p {p : Nat → Bool} {tk : Nat → Int32} : ∀ (N : Nat), (∀ o, o < N → tk o = -1 ∨ ∃ m, m ≤ 599 ∧ tk o = nI m) → (tfS p tk N = -1 ∧ ∀ o, o < N → p o = true → tk o = -1) ∨ (∃ m o, m ≤ 599 ∧ o < N ∧ p o = true ∧ tk o = nI m ∧ tfS p tk N = nI m ∧ ∀ o' m', o' < N → p o' = true → m' ≤ 599 → tk o' = nI m' → m ≤ m')
  | 0, _ => Or.inl ⟨rfl, fun o ho => absurd ho (Nat.not_lt_zero o)⟩
  | N + 1, h => by
    have ih := tf_p N (fun o ho => h o (Nat.lt_succ_of_lt ho)) (p := p)
    by_cases hp : p N = true
    · rcases h N (Nat.lt_succ_self N) with e | ⟨m, hm, e⟩
      · rw [tfS_n (fun z => z.2.1 (by rw [e]; decide))]
        rcases ih with ⟨i1, i2⟩ | ⟨m0, o, i1, i2, i3, i4, i5, i6⟩
        · exact Or.inl ⟨i1, fun o ho hpo => by
            by_cases eo : o = N
            · rw [eo]; exact e
            · exact i2 o (by omega) hpo⟩
        · refine Or.inr ⟨m0, o, i1, by omega, i3, i4, i5, fun o' m' ho' hp' hm' e' => ?_⟩
          by_cases eo : o' = N
          · subst eo
            exfalso
            rw [e] at e'
            have := congrArg (fun x : Int32 => x < 0) e'
            simp only [eq_iff_iff] at this
            exact nI_pos (by omega) (this.mp (by decide))
          · exact i6 o' m' (by omega) hp' hm' e'
      · rcases ih with ⟨i1, i2⟩ | ⟨m0, o, i1, i2, i3, i4, i5, i6⟩
        · rw [tfS_y ⟨hp, by rw [e]; exact nI_pos (by omega), Or.inl (by rw [i1]; decide)⟩]
          refine Or.inr ⟨m, N, hm, Nat.lt_succ_self N, hp, e, e, fun o' m' ho' hp' hm' e' => ?_⟩
          by_cases eo : o' = N
          · subst eo
            have := (nI_eq (by omega) (by omega)).mp (e.symm.trans e')
            omega
          · exfalso
            have e2 := i2 o' (by omega) hp'
            rw [e2] at e'
            have := congrArg (fun x : Int32 => x < 0) e'
            simp only [eq_iff_iff] at this
            exact nI_pos (by omega) (this.mp (by decide))
        · by_cases hlt : m < m0
          · rw [tfS_y ⟨hp, by rw [e]; exact nI_pos (by omega), Or.inr (by rw [e, i5]; exact nI_lt hlt (by omega))⟩]
            refine Or.inr ⟨m, N, hm, Nat.lt_succ_self N, hp, e, e, fun o' m' ho' hp' hm' e' => ?_⟩
            by_cases eo : o' = N
            · subst eo
              have := (nI_eq (by omega) (by omega)).mp (e.symm.trans e')
              omega
            · have := i6 o' m' (by omega) hp' hm' e'
              omega
          · rw [tfS_n (fun z => by
              rcases z.2.2 with z | z
              · rw [i5] at z; exact nI_pos (by omega) z
              · rw [e, i5] at z; exact nI_nlt (by omega) (by omega) z)]
            refine Or.inr ⟨m0, o, i1, by omega, i3, i4, i5, fun o' m' ho' hp' hm' e' => ?_⟩
            by_cases eo : o' = N
            · subst eo
              have := (nI_eq (by omega) (by omega)).mp (e.symm.trans e')
              omega
            · exact i6 o' m' (by omega) hp' hm' e'
    · rw [tfS_n (fun z => hp z.1)]
      rcases ih with ⟨i1, i2⟩ | ⟨m0, o, i1, i2, i3, i4, i5, i6⟩
      · exact Or.inl ⟨i1, fun o ho hpo => by
          by_cases eo : o = N
          · rw [eo] at hpo; exact absurd hpo hp
          · exact i2 o (by omega) hpo⟩
      · refine Or.inr ⟨m0, o, i1, by omega, i3, i4, i5, fun o' m' ho' hp' hm' e' => ?_⟩
        by_cases eo : o' = N
        · rw [eo] at hp'; exact absurd hp' hp
        · exact i6 o' m' (by omega) hp' hm' e'
theorem tk_v {C M : Mem} {nS nL : Nat} (h : Sim C M nS nL) {o : Nat} (ho : o < nS) : mgI M 5400 0 o = -1 ∨ ∃ m, m ≤ 599 ∧ mgI M 5400 0 o = nI m := by
  rcases sm_vT h o ho with ⟨e, -⟩ | ⟨m, w, hm, e, -⟩
  · exact Or.inl e
  · exact Or.inr ⟨m, by have := (sm_n1 h).2; omega, e⟩
/-- a memory in which who stands on whom has been worked out -/
def StW (C M M1 : Mem) (nS : Nat) : Prop := FrM M M1 ∧ ∀ s, s < nS → mgL M1 6400 0 s = bl C s
theorem frS {C M M' : Mem} {nS nL : Nat} (h : Std C M M' nS nL) : FrM M M' := FrM.of (h.1.wide (by decide))
theorem Std.w {C M M' : Mem} {nS nL : Nat} (h : Std C M M' nS nL) : StW C M M' nS := ⟨frS h, h.2.1⟩
theorem StW.on {C M M1 M2 : Mem} {nS : Nat} (h : StW C M M1 nS) {L : List Nat} (hE : EqOff L M1 M2) (hf : FrM M1 M2) (h64 : (([6400] : List Nat).all fun f => !L.contains f) = true) : StW C M M2 nS := ⟨h.1.trans hf, fun s hs => by rw [(hE.on h64 6400 (by decide)).2.1]; exact h.2 s hs⟩
theorem isOn_q {C M M1 : Mem} {nS : Nat} (hS : StW C M M1 nS) {s o : Nat} (hs : s < nS) (h64 : nS ≤ 64) (ho : o < 64) : fX12_isOn (nI s) (nI o) M1 = some (if hB (bl C s) o = true then 1 else 0) := by
  unfold fX12_isOn
  simp only [ix_n (show s < 64 by omega) (show 64 < 2 ^ 31 by omega), nI_clamp (show s < 2 ^ 31 by omega), hS.2 s hs]
  by_cases e : hB (bl C s) o = true
  · rw [if_pos ((onb_q _ ho).mpr e), if_pos e]
  · rw [if_neg (fun z => e ((onb_q _ ho).mp z)), if_neg e]
theorem tf_q {C M M1 : Mem} {nS nL : Nat} (h : Sim C M nS nL) (hS : StW C M M1 nS) {s : Nat} (hs : s < nS) : fX12_takenFirst (nI s) M1 = some (tfS (hB (bl C s)) (mgI M 5400 0) s) := by
  have hb : nS ≤ 64 ∧ nL ≤ 200 := sm_b1 h
  unfold fX12_takenFirst
  refine lpT (fun n i (x : Int32) => fX12_takenFirst_l4 (nI s) M1 n x (nI i)) s (fun i => tfS (hB (bl C s)) (mgI M 5400 0) i) _ (fun n => ?_) (fun n i hi => ?_) FU 0 (Nat.zero_le _) (FU_lt (by omega))
  · simp only [fX12_takenFirst_l4, fX12_takenFirst_b4]
    rw [if_pos (nI_le (Nat.le_refl _) (by omega))]
  · simp only [fX12_takenFirst_l4, fX12_takenFirst_b4]
    rw [if_neg (nI_ge hi (by omega)), isOn_q hS hs hb.1 (by omega)]
    simp only [bd_u, nm_u, ix_n (show i < 64 by omega) (show 64 < 2 ^ 31 by omega), nI_clamp (show i < 2 ^ 31 by omega), hS.1.i (f := 5400) rfl, nI_1]
    by_cases e : hB (bl C s) i = true
    · rw [if_pos e, if_neg one_ne]
      by_cases e2 : mgI M 5400 0 i < 0
      · rw [if_pos e2, tfS_n (fun z => z.2.1 e2)]
      · rw [if_neg e2]
        by_cases e3 : tfS (hB (bl C s)) (mgI M 5400 0) i < 0
        · rw [if_pos e3, tfS_y ⟨e, e2, Or.inl e3⟩]
        · rw [if_neg e3]
          by_cases e4 : tfS (hB (bl C s)) (mgI M 5400 0) i ≤ mgI M 5400 0 i
          · rw [if_pos e4, tfS_n (fun z => by
              rcases z.2.2 with z | z
              · exact e3 z
              · exact Int32.not_lt.mpr e4 z)]
          · rw [if_neg e4, tfS_y ⟨e, e2, Or.inr (Int32.not_le.mp e4)⟩]
    · rw [if_neg e, if_pos rfl, tfS_n (fun z => e z.1)]
/-- some TAKEN stone below -/
theorem tf_any {C M : Mem} {nS nL : Nat} (h : Sim C M nS nL) {s : Nat} (hs : s < nS) : (lg_cmp (bl C s &&& mgL C 505 0 0) (0 : Int64) = 0 ↔ tfS (hB (bl C s)) (mgI M 5400 0) s < 0) := by
  have hb : nS ≤ 64 ∧ nL ≤ 200 := sm_b1 h
  rw [lg_0, is0_q]
  rcases tf_p s (fun o ho => tk_v h (show o < nS by omega)) (p := hB (bl C s)) with ⟨i1, i2⟩ | ⟨m, o, i1, i2, i3, i4, i5, -⟩
  · rw [i1]
    refine ⟨fun _ => by decide, fun _ k hk => ?_⟩
    rw [hB_and, sm_tB h k hk]
    by_cases e : hB (bl C s) k = true
    · have := bl_lt h s hs k e
      rw [e, i2 k this e]
      simp
    · simp [e]
  · rw [i5]
    refine ⟨fun z => ?_, fun z => absurd z (nI_pos (by omega))⟩
    have := z o (by omega)
    rw [hB_and, sm_tB h o (by omega), i3, i4, decide_eq_true ⟨show o < nS by omega, nI_pos (by omega)⟩] at this
    cases this
def sB (C M : Mem) (s : Nat) : Int32 := if mgI M 5000 0 s = 5 then if mgI M 5700 0 s = 0 then if tfS (hB (bl C s)) (mgI M 5400 0) s < 0 then 0 else 1 else 0 else 0
theorem still_C {C M : Mem} {nS nL : Nat} (h : Sim C M nS nL) {s : Nat} (hs : s < nS) : fX5_isStill (some s) C = some (sB C M s) := by
  unfold fX5_isStill sB
  simp only [oc_SU]
  rw [sm_sK h s hs, sm_sH h s hs, show mgL C 815 s 0 = bl C s from rfl]
  by_cases e1 : mgI M 5000 0 s = 5
  · rw [if_pos e1, if_pos e1]
    by_cases e2 : mgI M 5700 0 s = 0
    · rw [if_pos e2, if_pos e2]
      by_cases e3 : tfS (hB (bl C s)) (mgI M 5400 0) s < 0
      · rw [if_pos e3, if_pos ((tf_any h hs).mpr e3)]
      · rw [if_neg e3, if_neg (fun z => e3 ((tf_any h hs).mp z))]
    · rw [if_neg e2, if_neg e2]
  · rw [if_neg e1, if_neg e1]
theorem still_M {C M M1 : Mem} {nS nL : Nat} (h : Sim C M nS nL) (hS : StW C M M1 nS) {s : Nat} (hs : s < nS) : fX12_isStill (nI s) M1 = some (sB C M s) := by
  have hb : nS ≤ 64 ∧ nL ≤ 200 := sm_b1 h
  unfold fX12_isStill sB
  simp only [ix_n (show s < 64 by omega) (show 64 < 2 ^ 31 by omega), nI_clamp (show s < 2 ^ 31 by omega), hS.1.i (f := 5000) rfl, hS.1.i (f := 5700) rfl, tf_q h hS hs, bd_u]
  by_cases e1 : mgI M 5000 0 s = 5
  · rw [if_pos e1, if_pos e1]
    by_cases e2 : mgI M 5700 0 s = 0
    · rw [if_pos e2, if_pos e2]
      by_cases e3 : tfS (hB (bl C s)) (mgI M 5400 0) s < 0
      · rw [if_pos e3, if_pos e3]
      · rw [if_neg e3, if_neg e3]
    · rw [if_neg e2, if_neg e2]
  · rw [if_neg e1, if_neg e1]
/-- the kind as it is now -/
def kN (C M : Mem) (s : Nat) : Int32 := if sB C M s = 0 then mgI M 5000 0 s else 6
theorem kn_C {C M : Mem} {nS nL : Nat} (h : Sim C M nS nL) {s : Nat} (hs : s < nS) : fX5_kindNow (some s) C = some (kN C M s) := by
  unfold fX5_kindNow kN
  rw [still_C h hs]
  simp only [bd_u, oc_SU]
  rw [sm_sK h s hs]
  by_cases e : sB C M s = 0
  · rw [if_pos e, if_pos e]
  · rw [if_neg e, if_neg e]
theorem kn_M {C M : Mem} {nS nL : Nat} (h : Sim C M nS nL) {s : Nat} (hs : s < nS) : ∃ M1, fX12_kindNow (nI s) M = some (kN C M s, M1) ∧ Std C M M1 nS nL := by
  have hb : nS ≤ 64 ∧ nL ≤ 200 := sm_b1 h
  obtain ⟨M1, e1, hS⟩ := fs_q h
  have g := hS.1.on (K := [5000]) rfl
  unfold fX12_kindNow kN
  rw [e1]
  simp only [bE_u]
  rw [still_M h hS.w hs]
  simp only [bd_u, ix_n (show s < 64 by omega) (show 64 < 2 ^ 31 by omega), nI_clamp (show s < 2 ^ 31 by omega), (g 5000 (by decide)).1]
  by_cases e : sB C M s = 0
  · rw [if_pos e, if_pos e]; exact ⟨M1, rfl, hS⟩
  · rw [if_neg e, if_neg e]; exact ⟨M1, rfl, hS⟩
/-- who stands on it -/
theorem ab_C {C M M1 : Mem} {nS nL : Nat} (h : Sim C M nS nL) (hS : Std C M M1 nS nL) {s : Nat} (hs : s < nS) : fX5_above (nI s) C = some (mgL M1 6500 0 s) := by
  have hb : nS ≤ 64 ∧ nL ≤ 200 := sm_b1 h
  have hm := (sm_c1 h).1
  have hx : mgL M1 6500 0 s = orU (fun n => hB (bl C n) s) nS := hB_ext fun k hk => by
    rw [hS.2.2.1 s hs k hk, hB_orU hb.1]
    by_cases e : k < nS ∧ hB (bl C k) s = true
    · rw [decide_eq_true e, decide_eq_true e.1, e.2]; rfl
    · rw [decide_eq_false e]
      by_cases e2 : k < nS
      · have : ¬ hB (bl C k) s = true := fun z => e ⟨e2, z⟩
        simp [this]
      · simp [e2]
  rw [hx]
  unfold fX5_above
  simp only [nm_u, nI_1]
  have h0 : (0 : Int64) = orU (fun n => hB (bl C n) s) (s + 1) := (orU_0 (fun k hk => by
    cases hq : hB (bl C k) s
    · rfl
    · have := bl_lt h k (by omega) s hq
      omega)).symm
  rw [h0]
  refine lpT (fun n i (x : Int64) => fX5_above_l7 C (nI s) n x (nI i)) nS (fun i => orU (fun n => hB (bl C n) s) i) _ (fun n => ?_) (fun n i hi => ?_) FU (s + 1) (by omega) (by have := FU_lt (N := 1000) (by omega); omega)
  · simp only [fX5_above_l7, fX5_above_b7]
    rw [hm, if_pos (nI_le (Nat.le_refl _) (by omega))]
  · simp only [fX5_above_l7, fX5_above_b7]
    rw [hm, if_neg (nI_ge hi (by omega))]
    simp only [nm_u, ix_n (show i < 64 by omega) (show 64 < 2 ^ 31 by omega), nI_clamp (show i < 2 ^ 31 by omega), sm_r1 h i hi, oc_SU, nI_1]
    have hbi : mgL C 815 i 0 = bl C i := rfl
    rw [hbi]
    by_cases e : hB (bl C i) s = true
    · rw [if_neg (fun z => by rw [isIn_0 _ (by omega)] at z; rw [e] at z; cases z), orU_y (p := fun n => hB (bl C n) s) e]
    · rw [if_pos ((isIn_0 _ (by omega)).mpr (by simpa using e)), orU_n (p := fun n => hB (bl C n) s) e]
