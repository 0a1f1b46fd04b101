theorem lpRD {σ ρ : Type} (F : Nat → Nat → σ → Option ρ) (P : ρ → Prop) (I : Nat → σ → Prop) (hx : ∀ n s, I 0 s → Rt (F (n + 1) 0 s) P)
    (hs : ∀ n i s, I (i + 1) s → (∀ s', I i s' → Rt (F n i s') P) → Rt (F (n + 1) (i + 1) s) P) : ∀ (i n : Nat) (s : σ), I i s → i < n → Rt (F n i s) P := by
  intro i
  induction i with
  | zero =>
    intro n s h hn
    obtain ⟨m, rfl⟩ : ∃ m, n = m + 1 := ⟨n - 1, by omega⟩
    exact hx m s h
  | succ i ih =>
    intro n s h hn
    obtain ⟨m, rfl⟩ : ∃ m, n = m + 1 := ⟨n - 1, by omega⟩
    exact hs m i s h (fun s' h' => ih m s' h' (by omega))
def MxP (S : Nat → Prop) (v : Nat) : Prop := (v = 0 ∨ S v) ∧ ∀ w, S w → w ≤ v
theorem MxP.cong {S T : Nat → Prop} {v : Nat} (h : MxP S v) (e : ∀ w, S w ↔ T w) : MxP T v := ⟨h.1.imp id (fun z => (e v).mp z), fun w hw => h.2 w ((e w).mpr hw)⟩
/-- lines to o that lead, their stones t, by the condition c, one more than what m says of t -/
def SetF (M Mx : Mem) (nS nL o : Nat) (c : Nat → Nat → Prop) (w : Nat) : Prop := ∃ j t u, j < nL ∧ mgI M 6000 0 j = nI o ∧ mgI M 6300 0 j = 0 ∧ t < nS ∧ mgI M 5900 0 j = nI t ∧ c j t ∧ u < 64 ∧ mgI Mx 6600 0 t = nI u ∧ w = u + 1
/-- what findStanding leaves -/
def Std (C M M' : Mem) (nS nL : Nat) : Prop := EqOff [6400, 6500, 6600] M M' ∧ (∀ s, s < nS → mgL M' 6400 0 s = bl C s) ∧ (∀ o, o < nS → ∀ k, k < 64 → hB (mgL M' 6500 0 o) k = decide (k < nS ∧ hB (bl C k) o = true)) ∧ ∀ o, o < nS → ∃ v, v + o < nS ∧ mgI M' 6600 0 o = nI v ∧ MxP (SetF M M' nS nL o (fun _ _ => True)) v
theorem add_m1 (x : Int32) : x + (-1 : Int32) = x - 1 := by rw [Int32.sub_eq_add_neg]
theorem fs_154 {C M : Mem} {nS nL : Nat} (h : Sim C M nS nL) (P : Unit × Mem → Prop) (k6 : Int32 → Mem → Option (Unit × Mem)) {s : Nat} (hs : s < nS) (M1 : Mem) (hE : EqOff [6400, 6500, 6600] M M1) (hF : ∀ o, o < nS → ∃ v, v + o < nS ∧ mgI M1 6600 0 o = nI v ∧ MxP (SetF M M1 nS nL o (fun _ t => s < t)) v)
    (kk : ∀ M2, EqOff [6600] M1 M2 → (∀ o, o < nS → ∃ v, v + o < nS ∧ mgI M2 6600 0 o = nI v ∧ MxP (SetF M M2 nS nL o (fun _ t => s ≤ t)) v) → Rt (k6 (nI s - 1) M2) P) : Rt (fX12_findStanding_l154 (nI s) k6 FU (0 : Int32) M1) P := by
  have hb : nS ≤ 64 ∧ nL ≤ 200 := sm_b1 h
  have hm := (sm_c2 h).2
  refine lpR (fun n i (M2 : Mem) => fX12_findStanding_l154 (nI s) k6 n (nI i) M2) P nL (fun i M2 => EqOff [6600] M1 M2 ∧ ∀ o, o < nS → ∃ v, v + o < nS ∧ mgI M2 6600 0 o = nI v ∧ MxP (SetF M M2 nS nL o (fun j t => s < t ∨ t = s ∧ j < i)) v) (fun n M2 hI => ?_) (fun n i M2 hi hI k => ?_) FU 0 M1 (Nat.zero_le _) ⟨EqOff.refl, fun o ho => ?_⟩ (FU_lt (by omega))
  · have g := hE.on (K := [1212]) rfl
    have g2 := hI.1.on (K := [1212]) rfl
    simp only [fX12_findStanding_l154, fX12_findStanding_b154, nm_u]
    rw [(g2 1212 (by decide)).1, (g 1212 (by decide)).1, hm, if_pos (nI_le (Nat.le_refl _) (by omega)), add_m1]
    refine kk M2 hI.1 (fun o ho => ?_)
    obtain ⟨v, v1, v2, v3⟩ := hI.2 o ho
    refine ⟨v, v1, v2, v3.cong (fun w => ?_)⟩
    constructor
    · rintro ⟨j, t, u, a1, a2, a3, a4, a5, a6, a7⟩; exact ⟨j, t, u, a1, a2, a3, a4, a5, by omega, a7⟩
    · rintro ⟨j, t, u, a1, a2, a3, a4, a5, a6, a7⟩; exact ⟨j, t, u, a1, a2, a3, a4, a5, by omega, a7⟩
  · have g := hE.on (K := [1212, 5900, 6000, 6300]) rfl
    have g2 := hI.1.on (K := [1212, 5900, 6000, 6300]) rfl
    simp only [fX12_findStanding_l154, fX12_findStanding_b154, nm_u]
    rw [(g2 1212 (by decide)).1, (g 1212 (by decide)).1, hm, if_neg (nI_ge hi (by omega))]
    simp only [ix_n (show i < 200 by omega) (show 200 < 2 ^ 31 by omega), nI_clamp (show i < 2 ^ 31 by omega), (g2 5900 (by decide)).1, (g 5900 (by decide)).1, (g2 6300 (by decide)).1, (g 6300 (by decide)).1, (g2 6000 (by decide)).1, (g 6000 (by decide)).1, nI_1]
    have skip : ¬ (mgI M 5900 0 i = nI s ∧ mgI M 6300 0 i = 0) → Rt (fX12_findStanding_l154 (nI s) k6 n (nI (i + 1)) M2) P := fun hn => k M2 ⟨hI.1, fun o ho => by
      obtain ⟨v, v1, v2, v3⟩ := hI.2 o ho
      refine ⟨v, v1, v2, v3.cong (fun w => ?_)⟩
      constructor
      · rintro ⟨j, t, u, a1, a2, a3, a4, a5, a6, a7⟩; exact ⟨j, t, u, a1, a2, a3, a4, a5, by omega, a7⟩
      · rintro ⟨j, t, u, a1, a2, a3, a4, a5, a6, a7⟩
        refine ⟨j, t, u, a1, a2, a3, a4, a5, ?_, a7⟩
        rcases a6 with a6 | ⟨a6, a8⟩
        · exact Or.inl a6
        · refine Or.inr ⟨a6, ?_⟩
          by_cases ej : j = i
          · subst ej; subst a6; exact absurd ⟨a5, a3⟩ hn
          · omega⟩
    by_cases e1 : mgI M 5900 0 i = nI s
    · rw [if_pos e1]
      by_cases e2 : mgI M 6300 0 i = 0
      · rw [if_pos e2]
        obtain ⟨b, hbs, e3⟩ := ln_n h hi hs e1
        rw [e3]
        obtain ⟨f, f1, f2, f3⟩ := hI.2 s hs
        obtain ⟨v, v1, v2, v3⟩ := hI.2 b (by omega)
        simp only [ix_n (show s < 64 by omega) (show 64 < 2 ^ 31 by omega), ix_n (show b < 64 by omega) (show 64 < 2 ^ 31 by omega), nI_clamp (show s < 2 ^ 31 by omega), nI_clamp (show b < 2 ^ 31 by omega), f2, v2, nI_1]
        by_cases hfv : f < v
        · rw [if_pos (nI_lt hfv (by omega))]
          refine k M2 ⟨hI.1, fun o ho => ?_⟩
          obtain ⟨x, x1, x2, x3⟩ := hI.2 o ho
          refine ⟨x, x1, x2, x3.1.imp id ?_, ?_⟩
          · rintro ⟨j, t, u, a1, a2, a3, a4, a5, a6, a7⟩; exact ⟨j, t, u, a1, a2, a3, a4, a5, by omega, a7⟩
          · rintro w ⟨j, t, u, a1, a2, a3, a4, a5, a6, a7, a8, a9⟩
            by_cases ej : j = i ∧ t = s
            · obtain ⟨rfl, rfl⟩ := ej
              have eo : o = b := (nI_eq (by omega) (by omega)).mp (a2.symm.trans e3)
              subst eo
              have eu : u = f := (nI_eq (by omega) (by omega)).mp (a8.symm.trans f2)
              have ex : x = v := (nI_eq (by omega) (by omega)).mp (x2.symm.trans v2)
              omega
            · exact x3.2 w ⟨j, t, u, a1, a2, a3, a4, a5, by omega, a7, a8, a9⟩
        · rw [if_neg (nI_nlt (by omega) (by omega))]
          refine k _ ⟨hI.1.I rfl, fun o ho => ?_⟩
          have hw : ∀ t, mgI (msI M2 6600 0 b (nI (f + 1))) 6600 0 t = if t = b then nI (f + 1) else mgI M2 6600 0 t := fun t => by simp only [uI_I, uL_L, uR_R, uI_L, uI_R, uL_I, uL_R, uR_I, uR_L, Nat.reduceEqDiff, false_and, and_false, true_and, and_true, ↓reduceIte]
          obtain ⟨x, x1, x2, x3⟩ := hI.2 o ho
          by_cases eo : o = b
          · subst eo
            refine ⟨f + 1, by omega, by rw [hw, if_pos rfl], Or.inr ⟨i, s, f, hi, e3, e2, hs, e1, Or.inr ⟨rfl, Nat.lt_succ_self i⟩, by omega, by rw [hw, if_neg (by omega)]; exact f2, rfl⟩, ?_⟩
            rintro w ⟨j, t, u, a1, a2, a3, a4, a5, a6, a7, a8, a9⟩
            rw [hw, if_neg (by omega)] at a8
            by_cases ej : j = i ∧ t = s
            · obtain ⟨rfl, rfl⟩ := ej
              have eu : u = f := (nI_eq (by omega) (by omega)).mp (a8.symm.trans f2)
              omega
            · have := v3.2 w ⟨j, t, u, a1, a2, a3, a4, a5, by omega, a7, a8, a9⟩
              omega
          · refine ⟨x, x1, by rw [hw, if_neg eo]; exact x2, x3.1.imp id ?_, ?_⟩
            · rintro ⟨j, t, u, a1, a2, a3, a4, a5, a6, a7, a8, a9⟩
              exact ⟨j, t, u, a1, a2, a3, a4, a5, by omega, a7, by rw [hw, if_neg (by omega)]; exact a8, a9⟩
            · rintro w ⟨j, t, u, a1, a2, a3, a4, a5, a6, a7, a8, a9⟩
              rw [hw, if_neg (by omega)] at a8
              refine x3.2 w ⟨j, t, u, a1, a2, a3, a4, a5, ?_, a7, a8, a9⟩
              rcases a6 with a6 | ⟨a6, a10⟩
              · exact Or.inl a6
              · refine Or.inr ⟨a6, ?_⟩
                by_cases ej : j = i
                · subst ej; exact absurd ((nI_eq (by omega) (by omega)).mp (a2.symm.trans e3)) eo
                · omega
      · rw [if_neg e2]
        exact skip (fun z => e2 z.2)
    · rw [if_neg e1]
      exact skip (fun z => e1 z.1)
  · obtain ⟨v, v1, v2, v3⟩ := hF o ho
    refine ⟨v, v1, v2, v3.cong (fun w => ?_)⟩
    constructor
    · rintro ⟨j, t, u, a1, a2, a3, a4, a5, a6, a7⟩; exact ⟨j, t, u, a1, a2, a3, a4, a5, Or.inl a6, a7⟩
    · rintro ⟨j, t, u, a1, a2, a3, a4, a5, a6, a7⟩; exact ⟨j, t, u, a1, a2, a3, a4, a5, by omega, a7⟩
theorem fs_114 {C M : Mem} {nS nL : Nat} (h : Sim C M nS nL) (P : Unit × Mem → Prop) (k6 : Int32 → Mem → Option (Unit × Mem)) {s : Nat} (hs : s < nS) (M1 : Mem) (h4 : mgL M1 6400 0 s = bl C s)
    (kk : ∀ M2, EqOff [6500] M1 M2 → (∀ o k, k < 64 → hB (mgL M2 6500 0 o) k = (hB (mgL M1 6500 0 o) k || decide (k = s ∧ o < s ∧ hB (bl C s) o = true))) → Rt (fX12_findStanding_l154 (nI s) k6 FU (0 : Int32) M2) P) : Rt (fX12_findStanding_l114 (nI s) k6 FU (0 : Int32) M1) P := by
  have hb : nS ≤ 64 ∧ nL ≤ 200 := sm_b1 h
  refine lpR (fun n i (M2 : Mem) => fX12_findStanding_l114 (nI s) k6 n (nI i) M2) P s (fun i M2 => EqOff [6500] M1 M2 ∧ ∀ o k, k < 64 → hB (mgL M2 6500 0 o) k = (hB (mgL M1 6500 0 o) k || decide (k = s ∧ o < i ∧ hB (bl C s) o = true))) (fun n M2 hI => ?_) (fun n i M2 hi hI k => ?_) FU 0 M1 (Nat.zero_le _) ⟨EqOff.refl, fun o k hk => ?_⟩ (FU_lt (by omega))
  · simp only [fX12_findStanding_l114, fX12_findStanding_b114, nm_u]
    rw [if_pos (nI_le (Nat.le_refl _) (by omega))]
    exact kk M2 hI.1 hI.2
  · have g2 := hI.1.on (K := [6400]) rfl
    simp only [fX12_findStanding_l114, fX12_findStanding_b114, nm_u]
    rw [if_neg (nI_ge hi (by omega))]
    simp only [ix_n (show s < 64 by omega) (show 64 < 2 ^ 31 by omega), ix_n (show i < 64 by omega) (show 64 < 2 ^ 31 by omega), nI_clamp (show s < 2 ^ 31 by omega), nI_clamp (show i < 2 ^ 31 by omega), (g2 6400 (by decide)).2.1, h4, nI_1, sft_q]
    by_cases hq : hB (bl C s) i = true
    · rw [if_pos ((onb_q _ (by omega)).mpr hq)]
      refine k _ ⟨hI.1.L rfl, fun o j hj => ?_⟩
      simp only [uI_I, uL_L, uR_R, uI_L, uI_R, uL_I, uL_R, uR_I, uR_L, Nat.reduceEqDiff, false_and, and_false, true_and, and_true, ↓reduceIte]
      by_cases eo : o = i
      · rw [if_pos eo, hB_or, hI.2 i j hj, hB_bit (by omega)]
        subst eo
        by_cases ej : j = s
        · subst ej
          simp [hq]
        · simp [ej]
      · rw [if_neg eo, hI.2 o j hj]
        congr 1
        by_cases ej : j = s ∧ o < i ∧ hB (bl C s) o = true
        · rw [decide_eq_true ej, decide_eq_true ⟨ej.1, by omega, ej.2.2⟩]
        · rw [decide_eq_false ej, decide_eq_false (fun z => ej ⟨z.1, by omega, z.2.2⟩)]
    · rw [if_neg (fun z => hq ((onb_q _ (by omega)).mp z))]
      refine k _ ⟨hI.1, fun o j hj => ?_⟩
      rw [hI.2 o j hj]
      congr 1
      by_cases ej : j = s ∧ o < i ∧ hB (bl C s) o = true
      · rw [decide_eq_true ej, decide_eq_true ⟨ej.1, by omega, ej.2.2⟩]
      · rw [decide_eq_false ej, decide_eq_false (fun z => ej ⟨z.1, by
          have : ¬ o = i := fun e => hq (e ▸ z.2.2)
          omega, z.2.2⟩)]
  · rw [decide_eq_false (fun z => absurd z.2.1 (Nat.not_lt_zero o)), Bool.or_false]
theorem fs_q {C M : Mem} {nS nL : Nat} (h : Sim C M nS nL) : ∃ M', fX12_findStanding M = some ((), M') ∧ Std C M M' nS nL := by
  have hb : nS ≤ 64 ∧ nL ≤ 200 := sm_b1 h
  have H : Rt (fX12_findStanding M) (fun r => Std C M r.2 nS nL) := by
    refine fs_2 h _ (fun M0 h1 h2 h3 h4 => ?_)
    refine lpRD (fun n s (M2 : Mem) => fX12_findStanding_l108 n (nI s - 1) M2) (fun r => Std C M r.2 nS nL) (fun s M2 => s ≤ nS ∧ EqOff [6400, 6500, 6600] M M2 ∧ (∀ t, t < nS → mgL M2 6400 0 t = bl C t) ∧ (∀ o, o < nS → ∀ k, k < 64 → hB (mgL M2 6500 0 o) k = decide (s ≤ k ∧ k < nS ∧ hB (bl C k) o = true)) ∧ ∀ o, o < nS → ∃ v, v + o < nS ∧ mgI M2 6600 0 o = nI v ∧ MxP (SetF M M2 nS nL o (fun _ t => s ≤ t)) v) (fun n M2 hI => ?_) (fun n s M2 hI k => ?_) nS FU M0 ⟨Nat.le_refl _, h1, h2, fun o ho k hk => ?_, fun o ho => ?_⟩ (FU_lt (by omega))
    · simp only [fX12_findStanding_l108, fX12_findStanding_b108]
      rw [if_pos (show nI 0 - (1 : Int32) < 0 by decide)]
      refine Rt_s ⟨hI.2.1, hI.2.2.1, fun o ho k hk => ?_, fun o ho => ?_⟩
      · rw [hI.2.2.2.1 o ho k hk]
        by_cases e : k < nS ∧ hB (bl C k) o = true
        · rw [decide_eq_true e, decide_eq_true ⟨Nat.zero_le _, e⟩]
        · rw [decide_eq_false e, decide_eq_false (fun z => e z.2)]
      · obtain ⟨v, v1, v2, v3⟩ := hI.2.2.2.2 o ho
        refine ⟨v, v1, v2, v3.cong (fun w => ?_)⟩
        constructor
        · rintro ⟨j, t, u, a1, a2, a3, a4, a5, a6, a7⟩; exact ⟨j, t, u, a1, a2, a3, a4, a5, trivial, a7⟩
        · rintro ⟨j, t, u, a1, a2, a3, a4, a5, a6, a7⟩; exact ⟨j, t, u, a1, a2, a3, a4, a5, Nat.zero_le _, a7⟩
    · have hs : s < nS := by omega
      simp only [fX12_findStanding_l108, fX12_findStanding_b108]
      rw [show nI (s + 1) - (1 : Int32) = nI s from pk_sub (a := s + 1) (b := 1) (by omega), if_neg (nI_pos (by omega))]
      refine fs_114 h _ _ hs M2 (hI.2.2.1 s hs) (fun M3 d1 d2 => ?_)
      have d3 := d1.on (K := [6400, 6600]) rfl
      have hE3 : EqOff [6400, 6500, 6600] M M3 := EqOff.trans hI.2.1 (d1.wide rfl)
      refine fs_154 h _ _ hs M3 hE3 (fun o ho => ?_) (fun M4 d4 d5 => ?_)
      · obtain ⟨v, v1, v2, v3⟩ := hI.2.2.2.2 o ho
        refine ⟨v, v1, by rw [(d3 6600 (by decide)).1]; exact v2, v3.cong (fun w => ?_)⟩
        unfold SetF
        rw [(d3 6600 (by decide)).1]
        constructor
        · rintro ⟨j, t, u, a1, a2, a3, a4, a5, a6, a7⟩; exact ⟨j, t, u, a1, a2, a3, a4, a5, by omega, a7⟩
        · rintro ⟨j, t, u, a1, a2, a3, a4, a5, a6, a7⟩; exact ⟨j, t, u, a1, a2, a3, a4, a5, by omega, a7⟩
      · have d6 := d4.on (K := [6400, 6500]) rfl
        refine k M4 ⟨by omega, EqOff.trans hE3 (d4.wide rfl), fun t ht => ?_, fun o ho j hj => ?_, d5⟩
        · rw [(d6 6400 (by decide)).2.1, (d3 6400 (by decide)).2.1]
          exact hI.2.2.1 t ht
        · rw [(d6 6500 (by decide)).2.1, d2 o j hj, hI.2.2.2.1 o ho j hj]
          by_cases ej : j = s
          · subst ej
            have hn : ¬ (j + 1 ≤ j ∧ j < nS ∧ hB (bl C j) o = true) := fun z => by omega
            rw [decide_eq_false hn, Bool.false_or]
            by_cases hq : hB (bl C j) o = true
            · have := bl_lt h j hs o hq
              rw [decide_eq_true ⟨rfl, this, hq⟩, decide_eq_true ⟨Nat.le_refl _, hs, hq⟩]
            · rw [decide_eq_false (fun z => hq z.2.2), decide_eq_false (fun z => hq z.2.2)]
          · rw [decide_eq_false (p := j = s ∧ o < s ∧ hB (bl C s) o = true) (fun z => ej z.1), Bool.or_false]
            by_cases e : s + 1 ≤ j ∧ j < nS ∧ hB (bl C j) o = true
            · rw [decide_eq_true e, decide_eq_true ⟨by omega, e.2⟩]
            · rw [decide_eq_false e, decide_eq_false (fun z => e ⟨by omega, z.2⟩)]
    · rw [h3 o ho, hB_0, decide_eq_false (fun z => by omega)]
    · refine ⟨0, by omega, h4 o ho, Or.inl rfl, ?_⟩
      rintro w ⟨j, t, u, a1, a2, a3, a4, a5, a6, a7⟩
      omega
  obtain ⟨r, e, hr⟩ := H
  exact ⟨r.2, e, hr⟩
