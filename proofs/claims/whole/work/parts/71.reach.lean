/-! who stands on whom, worked anew by the component -/
theorem lpL2 {σ ρ : Type} (F : Nat → Option Nat → σ → Option ρ) (lo : Nat → Int32) (s L : Nat) (I : Nat → σ → Prop) (g : Nat → σ → σ) (e : σ → Option ρ) (hx : ∀ n x, I 0 x → F (n + 1) none x = e x) (hk : ∀ N x, I (N + 1) x → I N x)
    (hs : ∀ n l x, l < L → lo l = nI s → I (l + 1) x → F (n + 1) (some l) x = F n (prv lo s l) (g l x) ∧ I l (g l x)) : ∀ (N n : Nat) (x : σ), N ≤ L → N < n → I N x → F n (prv lo s N) x = e (dns lo s g N x) := by
  intro N
  induction N with
  | zero =>
    intro n x _ hn hI
    obtain ⟨m, rfl⟩ : ∃ m, n = m + 1 := ⟨n - 1, by omega⟩
    exact hx m x hI
  | succ N ih =>
    intro n x hN hn hI
    unfold prv dns
    by_cases h : lo N = nI s
    · rw [if_pos h, if_pos h]
      obtain ⟨m, rfl⟩ : ∃ m, n = m + 1 := ⟨n - 1, by omega⟩
      obtain ⟨h1, h2⟩ := hs m N x hN h hI
      rw [h1]
      exact ih m (g N x) (by omega) (by omega) h2
    · rw [if_neg h, if_neg h]
      exact ih n x (by omega) (by omega) (hk N x hI)
theorem rf_q {C M : Mem} {nS nL : Nat} (hb : nS ≤ 64 ∧ nL ≤ 200) (c1 : mgI C 502 0 0 = nI nS) (r1 : f_r1 C M nS nL) (h1 : f_h1 C M nS nL) (h2 : f_h2 C M nS nL) (l1 : f_l1 C M nS nL) (l5 : f_l5 C M nS nL) (vL : f_vL C M nS nL) {s : Nat} (hs : s ≤ nS) (hlow : ∀ t, t < s → mgL C 815 t 0 = orL (mgI M 5900 0) (mgI M 6000 0) (mgI M 6300 0) (fun o => mgL C 815 o 0) t nL) :
    ∃ C', fX5_reachFrom (nI s) C = some ((), C') ∧ EqOff [815] C C' ∧ f_h5 C' M nS nL := by
  have H := lpR (fun n i (x : Mem) => fX5_reachFrom_l2 n (nI i) x) (fun r => EqOff [815] C r.2 ∧ f_h5 r.2 M nS nL) nS (fun i x => EqOff [815] C x ∧ ∀ t, t < i → mgL x 815 t 0 = orL (mgI M 5900 0) (mgI M 6000 0) (mgI M 6300 0) (fun o => mgL x 815 o 0) t nL) (fun n x hI => ?_) (fun n i x hi hI k => ?_) FU s C hs ⟨EqOff.refl, hlow⟩ (by have := FU_lt (N := 1000) (by omega); omega)
  · obtain ⟨r, e, hr⟩ := H
    exact ⟨r.2, e, hr⟩
  · have g := hI.1.on (K := [502]) rfl
    simp only [fX5_reachFrom_l2, fX5_reachFrom_b2]
    rw [(g 502 (by decide)).1, c1, if_pos (nI_le (Nat.le_refl _) (by omega))]
    exact Rt_s hI
  · have g := hI.1.on (K := [502, 3200, 813, 401, 402, 405]) rfl
    simp only [fX5_reachFrom_l2, fX5_reachFrom_b2]
    rw [(g 502 (by decide)).1, c1, if_neg (nI_ge hi (by omega))]
    simp only [nm_u, ix_n (show i < 64 by omega) (show 64 < 2 ^ 31 by omega), nI_clamp (show i < 2 ^ 31 by omega), (g 3200 (by decide)).2.2, r1 i hi, oc_SU, (g 813 (by decide)).2.2, h1 i hi]
    have hln : ∀ l, l < nL → mgI M 5900 0 l = nI i → ∃ b, b < i ∧ mgI M 6000 0 l = nI b := fun l hl e => by
      obtain ⟨a, b, v1, v2, v3, v4⟩ := vL l hl
      have : a = i := (nI_eq (by omega) (by omega)).mp (v3.symm.trans e)
      subst this
      exact ⟨b, v1, v4⟩
    have hl := lpL (fun m o (y : Int64) => fX5_reachFrom_l23 (nI i) x (fX5_reachFrom_l2 n) m y o) (mgI M 5900 0) i nL (fun _ => True) (fun l y => if mgI M 6300 0 l = 0 then y ||| (fX11_bit (mgI M 6000 0 l) ||| mgL x 815 (mgI M 6000 0 l).toNatClampNeg 0) else y) (fun y => fX5_reachFrom_l2 n (nI (i + 1)) (msL x 815 i 0 y))
      (fun m y _ => by
        simp only [fX5_reachFrom_l23, fX5_reachFrom_b23, oc_NU, nm_u]
        simp only [ix_n (show i < 64 by omega) (show 64 < 2 ^ 31 by omega), nI_clamp (show i < 2 ^ 31 by omega), (g 3200 (by decide)).2.2, r1 i hi, oc_SU, nI_1])
      (fun m l y hl e _ => by
        refine ⟨?_, trivial⟩
        simp only [fX5_reachFrom_l23, fX5_reachFrom_b23, oc_SU, nm_u]
        rw [(g 405 (by decide)).1, (g 401 (by decide)).1, (g 402 (by decide)).2.2, (g 3200 (by decide)).2.2, l5 l hl, l1 l hl, h2 l i hl hi e]
        by_cases e2 : mgI M 6300 0 l = 0
        · simp only [if_pos e2]
          obtain ⟨b, hbi, e3⟩ := hln l hl e
          rw [e3]
          simp only [ix_n (show b < 64 by omega) (show 64 < 2 ^ 31 by omega), nI_clamp (show b < 2 ^ 31 by omega), r1 b (show b < nS by omega), oc_SU]
        · simp only [if_neg e2]) nL FU 0 (Nat.le_refl _) (FU_lt (by omega)) trivial
    rw [dns_or (mgI M 5900 0) (mgI M 6000 0) (mgI M 6300 0) (fun o => mgL x 815 o 0) i nL 0, or_0] at hl
    rw [hl]
    refine k _ ⟨hI.1.L rfl, fun t ht => ?_⟩
    have hx : ∀ o, mgL (msL x 815 i 0 (orL (mgI M 5900 0) (mgI M 6000 0) (mgI M 6300 0) (fun o => mgL x 815 o 0) i nL)) 815 o 0 = if o = i then orL (mgI M 5900 0) (mgI M 6000 0) (mgI M 6300 0) (fun o => mgL x 815 o 0) i nL else mgL x 815 o 0 := fun o => by simp only [uI_I, uL_L, uR_R, uI_L, uI_R, uL_I, uL_R, uR_I, uR_L, Nat.reduceEqDiff, false_and, and_false, true_and, and_true, ↓reduceIte]
    have hcg : orL (mgI M 5900 0) (mgI M 6000 0) (mgI M 6300 0) (fun o => mgL (msL x 815 i 0 (orL (mgI M 5900 0) (mgI M 6000 0) (mgI M 6300 0) (fun o => mgL x 815 o 0) i nL)) 815 o 0) t nL = orL (mgI M 5900 0) (mgI M 6000 0) (mgI M 6300 0) (fun o => mgL x 815 o 0) t nL := orL_cong fun l hl e => by
      obtain ⟨a, b, v1, v2, v3, v4⟩ := vL l hl
      have : a = t := (nI_eq (by omega) (by omega)).mp (v3.symm.trans e)
      subst this
      rw [v4, nI_clamp (by omega)]
      show mgL _ 815 b 0 = mgL x 815 b 0
      rw [hx, if_neg (by omega)]
    rw [hcg, hx]
    by_cases e : t = i
    · rw [if_pos e, e]
    · rw [if_neg e]
      exact hI.2 t (by omega)
/-! to hear -/
/-- lines of s that lead to a TAKEN stone -/
def lTk (M : Mem) (s l : Nat) : Prop := mgI M 5900 0 l = nI s ∧ mgI M 6300 0 l = 0 ∧ ¬ mgI M 5400 0 (mgI M 6000 0 l).toNatClampNeg < 0
theorem lTk_c {C M : Mem} {nS nL : Nat} (h : Sim C M nS nL) {s l : Nat} (hs : s < nS) (hl : l < nL) (e : mgI M 5900 0 l = nI s) (e2 : mgI M 6300 0 l = 0) : (fX11_isIn (mgL C 505 0 0) (mgI M 6000 0 l) = 0 ↔ ¬ lTk M s l) := by
  have hb : nS ≤ 64 ∧ nL ≤ 200 := sm_b1 h
  obtain ⟨b, hbs, e3⟩ := ln_n h hl hs e
  unfold lTk
  rw [e3, nI_clamp (by omega), isIn_0 _ (by omega), sm_tB h b (by omega)]
  by_cases z : mgI M 5400 0 b < 0
  · simp [z]
  · simp [z, show b < nS by omega, e, e2]
theorem mh_drop {C M M1 : Mem} {nS nL : Nat} (h : Sim C M nS nL) (f : FrM M M1) {s : Nat} (hs : s < nS) : ∃ M2, fX12_hears_l38 (nI s) FU (0 : Int32) (msI M1 5700 0 s (1 : Int32)) = some ((), M2) ∧ EqOff [5700, 6300] M1 M2 ∧ (∀ t, mgI M2 5700 0 t = if t = s then 1 else mgI M 5700 0 t) ∧ ∀ l, (l < nL ∧ lTk M s l → mgI M2 6300 0 l = 1) ∧ (¬ (l < nL ∧ lTk M s l) → mgI M2 6300 0 l = mgI M 6300 0 l) := by
  have hb : nS ≤ 64 ∧ nL ≤ 200 := sm_b1 h
  have e0 : EqOff [5700] M1 (msI M1 5700 0 s (1 : Int32)) := EqOff.refl.I rfl
  have H := lpR (fun n i (x : Mem) => fX12_hears_l38 (nI s) n (nI i) x) (fun r => EqOff [6300] (msI M1 5700 0 s (1 : Int32)) r.2 ∧ ∀ l, (l < nL ∧ lTk M s l → mgI r.2 6300 0 l = 1) ∧ (¬ (l < nL ∧ lTk M s l) → mgI r.2 6300 0 l = mgI M 6300 0 l)) nL (fun i x => EqOff [6300] (msI M1 5700 0 s (1 : Int32)) x ∧ ∀ l, (l < i ∧ lTk M s l → mgI x 6300 0 l = 1) ∧ (¬ (l < i ∧ lTk M s l) → mgI x 6300 0 l = mgI M 6300 0 l)) (fun n x hI => ?_) (fun n i x hi hI k => ?_) FU 0 _ (Nat.zero_le _) ⟨EqOff.refl, fun l => ⟨fun z => absurd z.1 (Nat.not_lt_zero l), fun _ => by simp only [uI_I, uL_L, uR_R, uI_L, uI_R, uL_I, uL_R, uR_I, uR_L, Nat.reduceEqDiff, false_and, and_false, true_and, and_true, ↓reduceIte]; rw [f.i (f := 6300) rfl]⟩⟩ (FU_lt (by omega))
  · obtain ⟨r, e, h1, h2⟩ := H
    refine ⟨r.2, e, EqOff.trans (e0.wide rfl) (h1.wide rfl), fun t => ?_, h2⟩
    rw [(h1.on (K := [5700]) rfl 5700 (by decide)).1]
    simp only [uI_I, uL_L, uR_R, uI_L, uI_R, uL_I, uL_R, uR_I, uR_L, Nat.reduceEqDiff, false_and, and_false, true_and, and_true, ↓reduceIte]
    rw [f.i (f := 5700) rfl]
  · have g := hI.1.on (K := [1212]) rfl
    have g0 := e0.on (K := [1212]) rfl
    simp only [fX12_hears_l38, fX12_hears_b38]
    rw [(g 1212 (by decide)).1, (g0 1212 (by decide)).1, f.i (f := 1212) rfl, (sm_c2 h).2, if_pos (nI_le (Nat.le_refl _) (by omega))]
    exact Rt_s hI
  · have g := hI.1.on (K := [1212, 5900, 6000, 5400]) rfl
    have g0 := e0.on (K := [1212, 5900, 6000, 5400]) rfl
    simp only [fX12_hears_l38, fX12_hears_b38]
    rw [(g 1212 (by decide)).1, (g0 1212 (by decide)).1, f.i (f := 1212) rfl, (sm_c2 h).2, if_neg (nI_ge hi (by omega))]
    simp only [nm_u, ix_n (show i < 200 by omega) (show 200 < 2 ^ 31 by omega), nI_clamp (show i < 2 ^ 31 by omega), (g 5900 (by decide)).1, (g0 5900 (by decide)).1, f.i (f := 5900) rfl, (g 6000 (by decide)).1, (g0 6000 (by decide)).1, f.i (f := 6000) rfl, (g 5400 (by decide)).1, (g0 5400 (by decide)).1, f.i (f := 5400) rfl, nI_1, nar1]
    have h63 : mgI x 6300 0 i = mgI M 6300 0 i := (hI.2 i).2 (fun z => absurd z.1 (Nat.lt_irrefl i))
    rw [h63]
    have no : ¬ lTk M s i → Rt (fX12_hears_l38 (nI s) n (nI (i + 1)) x) (fun r => EqOff [6300] (msI M1 5700 0 s (1 : Int32)) r.2 ∧ ∀ l, (l < nL ∧ lTk M s l → mgI r.2 6300 0 l = 1) ∧ (¬ (l < nL ∧ lTk M s l) → mgI r.2 6300 0 l = mgI M 6300 0 l)) := fun hn =>
      k x ⟨hI.1, fun l => ⟨fun z => (hI.2 l).1 ⟨by
        have : l ≠ i := fun e => hn (e ▸ z.2)
        omega, z.2⟩, fun z => (hI.2 l).2 (fun y => z ⟨by omega, y.2⟩)⟩⟩
    by_cases e1 : mgI M 5900 0 i = nI s
    · rw [if_pos e1]
      by_cases e2 : mgI M 6300 0 i = 0
      · rw [if_pos e2]
        obtain ⟨b, hbs, e3⟩ := ln_n h hi hs e1
        rw [e3]
        simp only [ix_n (show b < 64 by omega) (show 64 < 2 ^ 31 by omega), nI_clamp (show b < 2 ^ 31 by omega)]
        by_cases e4 : 0 ≤ mgI M 5400 0 b
        · rw [if_pos e4]
          have ht : lTk M s i := ⟨e1, e2, by rw [e3, nI_clamp (by omega)]; exact Int32.not_lt.mpr e4⟩
          refine k _ ⟨hI.1.I rfl, fun l => ?_⟩
          simp only [uI_I, uL_L, uR_R, uI_L, uI_R, uL_I, uL_R, uR_I, uR_L, Nat.reduceEqDiff, false_and, and_false, true_and, and_true, ↓reduceIte]
          by_cases e : l = i
          · rw [if_pos e]
            exact ⟨fun _ => rfl, fun z => absurd ⟨by omega, e ▸ ht⟩ z⟩
          · rw [if_neg e]
            exact ⟨fun z => (hI.2 l).1 ⟨by omega, z.2⟩, fun z => (hI.2 l).2 (fun y => z ⟨by omega, y.2⟩)⟩
        · rw [if_neg e4]
          exact no (fun z => e4 (by have := z.2.2; rw [e3, nI_clamp (by omega)] at this; exact Int32.not_lt.mp this))
      · rw [if_neg e2]
        exact no (fun z => e2 z.2.1)
    · rw [if_neg e1]
      exact no (fun z => e1 z.1)
theorem mh_hold {C M M1 : Mem} {nS nL : Nat} (h : Sim C M nS nL) (f : FrM M M1) {s : Nat} (hs : s < nS) : ∃ M2, fX12_hears_l38_18 (nI s) FU (0 : Int32) (msI M1 5700 0 s (2 : Int32)) = some ((), M2) ∧ EqOff [5700, 6100] M1 M2 ∧ (∀ t, mgI M2 5700 0 t = if t = s then 2 else mgI M 5700 0 t) ∧ ∀ l, (l < nL ∧ lTk M s l → mgI M2 6100 0 l = nI 99) ∧ (¬ (l < nL ∧ lTk M s l) → mgI M2 6100 0 l = mgI M 6100 0 l) := by
  have hb : nS ≤ 64 ∧ nL ≤ 200 := sm_b1 h
  have e0 : EqOff [5700] M1 (msI M1 5700 0 s (2 : Int32)) := EqOff.refl.I rfl
  have H := lpR (fun n i (x : Mem) => fX12_hears_l38_18 (nI s) n (nI i) x) (fun r => EqOff [6100] (msI M1 5700 0 s (2 : Int32)) r.2 ∧ ∀ l, (l < nL ∧ lTk M s l → mgI r.2 6100 0 l = nI 99) ∧ (¬ (l < nL ∧ lTk M s l) → mgI r.2 6100 0 l = mgI M 6100 0 l)) nL (fun i x => EqOff [6100] (msI M1 5700 0 s (2 : Int32)) x ∧ ∀ l, (l < i ∧ lTk M s l → mgI x 6100 0 l = nI 99) ∧ (¬ (l < i ∧ lTk M s l) → mgI x 6100 0 l = mgI M 6100 0 l)) (fun n x hI => ?_) (fun n i x hi hI k => ?_) FU 0 _ (Nat.zero_le _) ⟨EqOff.refl, fun l => ⟨fun z => absurd z.1 (Nat.not_lt_zero l), fun _ => by simp only [uI_I, uL_L, uR_R, uI_L, uI_R, uL_I, uL_R, uR_I, uR_L, Nat.reduceEqDiff, false_and, and_false, true_and, and_true, ↓reduceIte]; rw [f.i (f := 6100) rfl]⟩⟩ (FU_lt (by omega))
  · obtain ⟨r, e, h1, h2⟩ := H
    refine ⟨r.2, e, EqOff.trans (e0.wide rfl) (h1.wide rfl), fun t => ?_, h2⟩
    rw [(h1.on (K := [5700]) rfl 5700 (by decide)).1]
    simp only [uI_I, uL_L, uR_R, uI_L, uI_R, uL_I, uL_R, uR_I, uR_L, Nat.reduceEqDiff, false_and, and_false, true_and, and_true, ↓reduceIte]
    rw [f.i (f := 5700) rfl]
  · have g := hI.1.on (K := [1212]) rfl
    have g0 := e0.on (K := [1212]) rfl
    simp only [fX12_hears_l38_18, fX12_hears_b38_18]
    rw [(g 1212 (by decide)).1, (g0 1212 (by decide)).1, f.i (f := 1212) rfl, (sm_c2 h).2, if_pos (nI_le (Nat.le_refl _) (by omega))]
    exact Rt_s hI
  · have g := hI.1.on (K := [1212, 5900, 6000, 6300, 5400]) rfl
    have g0 := e0.on (K := [1212, 5900, 6000, 6300, 5400]) rfl
    simp only [fX12_hears_l38_18, fX12_hears_b38_18]
    rw [(g 1212 (by decide)).1, (g0 1212 (by decide)).1, f.i (f := 1212) rfl, (sm_c2 h).2, if_neg (nI_ge hi (by omega))]
    simp only [nm_u, ix_n (show i < 200 by omega) (show 200 < 2 ^ 31 by omega), nI_clamp (show i < 2 ^ 31 by omega), (g 5900 (by decide)).1, (g0 5900 (by decide)).1, f.i (f := 5900) rfl, (g 6000 (by decide)).1, (g0 6000 (by decide)).1, f.i (f := 6000) rfl, (g 6300 (by decide)).1, (g0 6300 (by decide)).1, f.i (f := 6300) rfl, (g 5400 (by decide)).1, (g0 5400 (by decide)).1, f.i (f := 5400) rfl, nI_1]
    have no : ¬ lTk M s i → Rt (fX12_hears_l38_18 (nI s) n (nI (i + 1)) x) (fun r => EqOff [6100] (msI M1 5700 0 s (2 : Int32)) r.2 ∧ ∀ l, (l < nL ∧ lTk M s l → mgI r.2 6100 0 l = nI 99) ∧ (¬ (l < nL ∧ lTk M s l) → mgI r.2 6100 0 l = mgI M 6100 0 l)) := fun hn =>
      k x ⟨hI.1, fun l => ⟨fun z => (hI.2 l).1 ⟨by
        have : l ≠ i := fun e => hn (e ▸ z.2)
        omega, z.2⟩, fun z => (hI.2 l).2 (fun y => z ⟨by omega, y.2⟩)⟩⟩
    by_cases e1 : mgI M 5900 0 i = nI s
    · rw [if_pos e1]
      by_cases e2 : mgI M 6300 0 i = 0
      · rw [if_pos e2]
        obtain ⟨b, hbs, e3⟩ := ln_n h hi hs e1
        rw [e3]
        simp only [ix_n (show b < 64 by omega) (show 64 < 2 ^ 31 by omega), nI_clamp (show b < 2 ^ 31 by omega)]
        by_cases e4 : 0 ≤ mgI M 5400 0 b
        · rw [if_pos e4]
          have ht : lTk M s i := ⟨e1, e2, by rw [e3, nI_clamp (by omega)]; exact Int32.not_lt.mpr e4⟩
          refine k _ ⟨hI.1.I rfl, fun l => ?_⟩
          simp only [uI_I, uL_L, uR_R, uI_L, uI_R, uL_I, uL_R, uR_I, uR_L, Nat.reduceEqDiff, false_and, and_false, true_and, and_true, ↓reduceIte]
          by_cases e : l = i
          · rw [if_pos e]
            exact ⟨fun _ => rfl, fun z => absurd ⟨by omega, e ▸ ht⟩ z⟩
          · rw [if_neg e]
            exact ⟨fun z => (hI.2 l).1 ⟨by omega, z.2⟩, fun z => (hI.2 l).2 (fun y => z ⟨by omega, y.2⟩)⟩
        · rw [if_neg e4]
          exact no (fun z => e4 (by have := z.2.2; rw [e3, nI_clamp (by omega)] at this; exact Int32.not_lt.mp this))
      · rw [if_neg e2]
        exact no (fun z => e2 z.2.1)
    · rw [if_neg e1]
      exact no (fun z => e1 z.1)
