theorem o203a : ∀ n x1 x2, fX12_oddsOf_l203_50 x1 x2 n = fX12_oddsOf_l203 x1 x2 n := fun n x1 x2 => by
  induction n with
  | zero => rfl
  | succ n ih =>
    funext i M
    show fX12_oddsOf_b203_50 x1 x2 (fX12_oddsOf_l203_50 x1 x2 n) i M = fX12_oddsOf_b203 x1 x2 (fX12_oddsOf_l203 x1 x2 n) i M
    rw [ih]
    rfl
theorem o203b : ∀ n x1 x2, fX12_oddsOf_l203_115 x1 x2 n = fX12_oddsOf_l203 x1 x2 n := fun n x1 x2 => by
  induction n with
  | zero => rfl
  | succ n ih =>
    funext i M
    show fX12_oddsOf_b203_115 x1 x2 (fX12_oddsOf_l203_115 x1 x2 n) i M = fX12_oddsOf_b203 x1 x2 (fX12_oddsOf_l203 x1 x2 n) i M
    rw [ih]
    rfl
theorem o203c : ∀ n x1 x2, fX12_oddsOf_l203_149 x1 x2 n = fX12_oddsOf_l203 x1 x2 n := fun n x1 x2 => by
  induction n with
  | zero => rfl
  | succ n ih =>
    funext i M
    show fX12_oddsOf_b203_149 x1 x2 (fX12_oddsOf_l203_149 x1 x2 n) i M = fX12_oddsOf_b203 x1 x2 (fX12_oddsOf_l203 x1 x2 n) i M
    rw [ih]
    rfl
theorem o77 : ∀ n x1 x2, fX12_oddsOf_l77_110 x1 x2 n = fX12_oddsOf_l77 x1 x2 n := fun n x1 x2 => by
  induction n with
  | zero => rfl
  | succ n ih =>
    funext i M
    show fX12_oddsOf_b77_110 x1 x2 (fX12_oddsOf_l77_110 x1 x2 n) i M = fX12_oddsOf_b77 x1 x2 (fX12_oddsOf_l77 x1 x2 n) i M
    rw [ih]
    unfold fX12_oddsOf_b77_110 fX12_oddsOf_b77
    rw [o203b, o203c, o203a]
/-! what a HELD one knows -/
def wnL (M : Mem) (l : Nat) : Nat := (mgI M 6100 0 l).toNatClampNeg
def enL (M : Mem) (l : Nat) : Nat := (mgI M 6200 0 l).toNatClampNeg
def acK (M : Mem) (s : Nat) : Nat → Nat × Nat × Nat
  | 0 => (0, 3, 0)
  | l + 1 => if mgI M 5900 0 l = nI s ∧ mgI M 6300 0 l = 0 then (max (acK M s l).1 (wnL M l), min (acK M s l).2.1 (enL M l), (acK M s l).2.2 + 1) else acK M s l
theorem acK_y {M : Mem} {s l : Nat} (h : mgI M 5900 0 l = nI s ∧ mgI M 6300 0 l = 0) : acK M s (l + 1) = (max (acK M s l).1 (wnL M l), min (acK M s l).2.1 (enL M l), (acK M s l).2.2 + 1) := if_pos h
theorem acK_n {M : Mem} {s l : Nat} (h : ¬ (mgI M 5900 0 l = nI s ∧ mgI M 6300 0 l = 0)) : acK M s (l + 1) = acK M s l := if_neg h
theorem wnL_q {C M : Mem} {nS nL : Nat} (h : Sim C M nS nL) {l : Nat} (hl : l < nL) : wnL M l ≤ 99 ∧ mgI M 6100 0 l = nI (wnL M l) := by
  obtain ⟨w, w1, w2, e⟩ := sm_vW h l hl
  have : wnL M l = w := by unfold wnL; rw [e, nI_clamp (by omega)]
  rw [this]
  exact ⟨w2, e⟩
theorem enL_q {C M : Mem} {nS nL : Nat} (h : Sim C M nS nL) {l : Nat} (hl : l < nL) : enL M l ≤ 2 ∧ mgI M 6200 0 l = nI (enL M l) := by
  obtain ⟨w, w2, e⟩ := sm_vE h l hl
  have : enL M l = w := by unfold enL; rw [e, nI_clamp (by omega)]
  rw [this]
  exact ⟨w2, e⟩
theorem acK_b {C M : Mem} {nS nL : Nat} (h : Sim C M nS nL) (s : Nat) : ∀ N, N ≤ nL → (acK M s N).1 ≤ 99 ∧ (acK M s N).2.1 ≤ 3 ∧ (acK M s N).2.2 ≤ N ∧ ((acK M s N).2.2 = 0 ∨ (acK M s N).2.1 ≤ 2)
  | 0, _ => ⟨Nat.zero_le _, Nat.le_refl _, Nat.le_refl _, Or.inl rfl⟩
  | N + 1, hN => by
    obtain ⟨i1, i2, i3, i4⟩ := acK_b h s N (by omega)
    by_cases hc : mgI M 5900 0 N = nI s ∧ mgI M 6300 0 N = 0
    · rw [acK_y hc]
      have w := (wnL_q h (show N < nL by omega)).1
      have e := (enL_q h (show N < nL by omega)).1
      exact ⟨Nat.max_le.mpr ⟨i1, w⟩, by show min _ _ ≤ 3; omega, by show _ + 1 ≤ N + 1; omega, Or.inr (by show min _ _ ≤ 2; omega)⟩
    · rw [acK_n hc]
      exact ⟨i1, i2, by omega, i4⟩
theorem dns_ac (M : Mem) (s : Nat) : ∀ (N : Nat) (x : Nat × Nat × Nat), x.2.1 ≤ 3 → dns (mgI M 5900 0) s (fun l x => if mgI M 6300 0 l = 0 then (max x.1 (wnL M l), min x.2.1 (enL M l), x.2.2 + 1) else x) N x = (max x.1 (acK M s N).1, min x.2.1 (acK M s N).2.1, x.2.2 + (acK M s N).2.2)
  | 0, x, hx => by
    show x = (max x.1 0, min x.2.1 3, x.2.2 + 0)
    obtain ⟨a, b, c⟩ := x
    have hb : b ≤ 3 := hx
    show (a, b, c) = (max a 0, min b 3, c + 0)
    rw [Nat.max_eq_left (Nat.zero_le _), Nat.min_eq_left hb]
    rfl
  | N + 1, x, hx => by
    by_cases h : mgI M 5900 0 N = nI s
    · rw [dns_y h]
      by_cases h2 : mgI M 6300 0 N = 0
      · rw [if_pos h2, dns_ac M s N _ (by show min _ _ ≤ 3; omega), acK_y ⟨h, h2⟩]
        show (max (max x.1 (wnL M N)) (acK M s N).1, min (min x.2.1 (enL M N)) (acK M s N).2.1, x.2.2 + 1 + (acK M s N).2.2) = (max x.1 (max (acK M s N).1 (wnL M N)), min x.2.1 (min (acK M s N).2.1 (enL M N)), x.2.2 + ((acK M s N).2.2 + 1))
        congr 1
        · omega
        · congr 1
          · omega
          · omega
      · rw [if_neg h2, dns_ac M s N x hx, acK_n (fun z => h2 z.2)]
    · rw [dns_n h, dns_ac M s N x hx, acK_n (fun z => h z.1)]
def pUn (C M : Mem) (s : Nat) (c : Nat) : Bool := decide (mgI M 8600 0 c < 0) && hB (bl C s &&& mgL C 505 0 0) (cs M c)
def kF (C M : Mem) (s nL : Nat) (k : Nat) : Int32 :=
  if k = 0 then (if tfS (hB (bl C s)) (mgI M 5400 0) s < 0 then 0 else mgI M 1201 0 0 - tfS (hB (bl C s)) (mgI M 5400 0) s) else if k = 1 then nI (acK M s nL).1 else if k = 2 then (if (acK M s nL).2.2 = 0 then 0 else nI (acK M s nL).2.1) else if k = 3 then nI (acK M s nL).2.2 else if k = 4 then nI (ctU (pUn C M s) (mgI M 1246 0 0).toNatClampNeg) else if k = 5 then mgI M 5200 0 s else (if mgI M 5800 0 s = 0 then 0 else 1)
def mtS (p : Nat → Bool) (tk : Nat → Int32) (nw : Int32) : Nat → Int32
  | 0 => 0
  | o + 1 => if p o = true ∧ ¬ tk o < 0 then (if mtS p tk nw o < nw - tk o then nw - tk o else mtS p tk nw o) else mtS p tk nw o
theorem mtS_y {p : Nat → Bool} {tk : Nat → Int32} {nw : Int32} {o : Nat} (h : p o = true ∧ ¬ tk o < 0) : mtS p tk nw (o + 1) = if mtS p tk nw o < nw - tk o then nw - tk o else mtS p tk nw o := if_pos h
theorem mtS_n {p : Nat → Bool} {tk : Nat → Int32} {nw : Int32} {o : Nat} (h : ¬ (p o = true ∧ ¬ tk o < 0)) : mtS p tk nw (o + 1) = mtS p tk nw o := if_neg h
theorem mt_tf {p : Nat → Bool} {tk : Nat → Int32} {w : Nat} (hw : w ≤ 599) : ∀ N, (∀ o, o < N → tk o = -1 ∨ ∃ m, m ≤ w ∧ tk o = nI m) → mtS p tk (nI w) N = (if tfS p tk N < 0 then 0 else nI w - tfS p tk N) ∧ (tfS p tk N = -1 ∨ ∃ m, m ≤ w ∧ tfS p tk N = nI m)
  | 0, _ => by
    refine ⟨?_, Or.inl rfl⟩
    show (0 : Int32) = if (-1 : Int32) < 0 then 0 else nI w - -1
    rw [if_pos (by decide)]
  | N + 1, h => by
    obtain ⟨i1, i2⟩ := mt_tf hw N (fun o ho => h o (Nat.lt_succ_of_lt ho)) (p := p)
    by_cases hc : p N = true ∧ ¬ tk N < 0
    · have hN : ∃ m, m ≤ w ∧ tk N = nI m := (h N (Nat.lt_succ_self N)).resolve_left (fun z => hc.2 (by rw [z]; decide))
      obtain ⟨m, hm, em⟩ := hN
      have esub : nI w - nI m = nI (w - m) := pk_sub hm
      rw [mtS_y hc, i1, em, esub]
      rcases i2 with i2 | ⟨m0, h0, i2⟩
      · rw [tfS_y ⟨hc.1, hc.2, Or.inl (by rw [i2]; decide)⟩, i2, if_pos (show (-1 : Int32) < 0 by decide), em, if_neg (nI_pos (by omega)), esub]
        refine ⟨?_, Or.inr ⟨m, hm, rfl⟩⟩
        by_cases hz : 0 < w - m
        · rw [if_pos (show (0 : Int32) < nI (w - m) from nI_lt (a := 0) hz (by omega))]
        · rw [if_neg (show ¬ (0 : Int32) < nI (w - m) from nI_nlt (b := w - m) (a := 0) (by omega) (by omega)), show w - m = 0 by omega]
          rfl
      · have esub0 : nI w - nI m0 = nI (w - m0) := pk_sub h0
        rw [i2, if_neg (nI_pos (by omega)), esub0]
        by_cases hlt : m < m0
        · rw [tfS_y ⟨hc.1, hc.2, Or.inr (by rw [em, i2]; exact nI_lt hlt (by omega))⟩, em, if_neg (nI_pos (by omega)), if_pos (nI_lt (by omega) (by omega)), esub]
          exact ⟨rfl, Or.inr ⟨m, hm, rfl⟩⟩
        · rw [tfS_n (fun z => by
            rcases z.2.2 with z | z
            · rw [i2] at z; exact nI_pos (by omega) z
            · rw [em, i2] at z; exact nI_nlt (by omega) (by omega) z), i2, if_neg (nI_pos (by omega)), if_neg (nI_nlt (by omega) (by omega)), esub0]
          exact ⟨rfl, Or.inr ⟨m0, h0, rfl⟩⟩
    · rw [mtS_n hc, tfS_n (fun z => hc ⟨z.1, z.2.1⟩)]
      exact ⟨i1, i2⟩
theorem tfS_ext {p : Nat → Bool} {tk : Nat → Int32} (a : Nat) : ∀ d, (∀ k, a ≤ k → k < a + d → ¬ p k = true) → tfS p tk (a + d) = tfS p tk a
  | 0, _ => rfl
  | d + 1, h => by
    rw [← Nat.add_assoc, tfS_n (fun z => h (a + d) (by omega) (by omega) z.1), tfS_ext a d (fun k h1 h2 => h k h1 (by omega))]
theorem mo_C {C M : Mem} {nS nL : Nat} (h : Sim C M nS nL) {C' : Mem} (fC : FrC C C') {s : Nat} (hs : s < nS) : fX3_monthsTaken (bl C s &&& mgL C 505 0 0) C' = some (kF C M s nL 0) := by
  have hb : nS ≤ 64 ∧ nL ≤ 200 := sm_b1 h
  obtain ⟨w, hw, n0, n1, n2⟩ := nwL h
  have hv : ∀ o, o < nS → mgI M 5400 0 o = -1 ∨ ∃ m, m ≤ w ∧ mgI M 5400 0 o = nI m := fun o ho => by
    rcases sm_vT h o ho with ⟨e, -⟩ | ⟨m, v, hm, e, -⟩
    · exact Or.inl e
    · exact Or.inr ⟨m, by rw [n2] at hm; exact hm, e⟩
  have he : kF C M s nL 0 = mtS (hB (bl C s)) (mgI M 5400 0) (nI w) nS := by
    rw [(mt_tf hw nS hv).1]
    unfold kF
    rw [if_pos rfl, n0]
    have : tfS (hB (bl C s)) (mgI M 5400 0) nS = tfS (hB (bl C s)) (mgI M 5400 0) s := by
      obtain ⟨d, rfl⟩ : ∃ d, nS = s + d := ⟨nS - s, by omega⟩
      exact tfS_ext s d (fun k h1 _ hk => by have := bl_lt h s hs k hk; omega)
    rw [this]
  rw [he]
  unfold fX3_monthsTaken
  refine lpT (fun n i (x : Int32) => fX3_monthsTaken_l5 C' (bl C s &&& mgL C 505 0 0) n x (nI i)) nS (fun i => mtS (hB (bl C s)) (mgI M 5400 0) (nI w) i) _ (fun n => ?_) (fun n i hi => ?_) FU 0 (Nat.zero_le _) (FU_lt (by omega))
  · simp only [fX3_monthsTaken_l5, fX3_monthsTaken_b5]
    rw [fC.i (f := 502) rfl, (sm_c1 h).1, if_pos (nI_le (Nat.le_refl _) (by omega))]
  · simp only [fX3_monthsTaken_l5, fX3_monthsTaken_b5]
    rw [fC.i (f := 502) rfl, (sm_c1 h).1, if_neg (nI_ge hi (by omega)), fC.r (f := 3200) rfl, fC.i (f := 504) rfl, fC.i (f := 807) rfl]
    simp only [nm_u, ix_n (show i < 64 by omega) (show 64 < 2 ^ 31 by omega), nI_clamp (show i < 2 ^ 31 by omega), sm_r1 h i hi, oc_SU, sm_sI h i hi, n1, nI_1]
    have hin : hB (bl C s &&& mgL C 505 0 0) i = true ↔ hB (bl C s) i = true ∧ ¬ mgI M 5400 0 i < 0 := by
      rw [hB_and, sm_tB h i (by omega)]
      simp [hi]
    by_cases hc : hB (bl C s) i = true ∧ ¬ mgI M 5400 0 i < 0
    · rw [if_neg (fun z => by rw [isIn_0 _ (by omega)] at z; rw [hin.mpr hc] at z; cases z), mtS_y hc]
    · rw [if_pos ((isIn_0 _ (by omega)).mpr (by
        cases hq : hB (bl C s &&& mgL C 505 0 0) i
        · rfl
        · exact absurd (hin.mp hq) hc)), mtS_n hc]
theorem fr30 {C C' : Mem} (h : EqOff [3000] C C') : FrC C C' := FrC.of (h.wide (by decide))
set_option maxHeartbeats 4000000 in
theorem know_q {C M : Mem} {nS nL : Nat} (h : Sim C M nS nL) {C1 : Mem} (fC : FrC C C1) {s : Nat} (hs : s < nS) : ∃ C2, fX3_know (some s) C1 = some ((), C2) ∧ EqOff [3000] C1 C2 ∧ ∀ k, k < 7 → mgI C2 3000 0 k = kF C M s nL k := by
  have hb : nS ≤ 64 ∧ nL ≤ 200 := sm_b1 h
  unfold fX3_know
  simp only [oc_SU, nm_u]
  rw [fC.r (f := 813) rfl, sm_h1 h s hs]
  have hl := lpL (fun m o (x : Nat × Nat × Nat) => fX3_know_l13 C1 s m (nI x.1) (nI x.2.1) (nI x.2.2) o) (mgI M 5900 0) s nL (fun x => x.1 ≤ 99 ∧ x.2.1 ≤ 3) (fun l x => if mgI M 6300 0 l = 0 then (max x.1 (wnL M l), min x.2.1 (enL M l), x.2.2 + 1) else x) (fun x => fX3_know_l13 C1 s 1 (nI x.1) (nI x.2.1) (nI x.2.2) none)
    (fun m x _ => by simp only [fX3_know_l13, fX3_know_b13, oc_NU])
    (fun m l x hl e hx => by
      obtain ⟨w1, w2⟩ := wnL_q h hl
      obtain ⟨v1, v2⟩ := enL_q h hl
      refine ⟨?_, ?_⟩
      · simp only [fX3_know_l13, fX3_know_b13, oc_SU, nm_u]
        rw [fC.i (f := 405) rfl, fC.i (f := 403) rfl, fC.i (f := 404) rfl, fC.r (f := 402) rfl, sm_l5 h l hl, sm_l3 h l hl, sm_l4 h l hl, sm_h2 h l s hl hs e, w2, v2]
        by_cases e2 : mgI M 6300 0 l = 0
        · simp only [if_pos e2, nI_1]
          have m1 : (if nI x.1 < nI (wnL M l) then nI (wnL M l) else nI x.1) = nI (max x.1 (wnL M l)) := by
            by_cases q : x.1 < wnL M l
            · rw [if_pos (nI_lt q (by omega)), Nat.max_eq_right (by omega)]
            · rw [if_neg (nI_nlt (by omega) (by omega)), Nat.max_eq_left (by omega)]
          have m2 : (if nI (enL M l) < nI x.2.1 then nI (enL M l) else nI x.2.1) = nI (min x.2.1 (enL M l)) := by
            by_cases q : enL M l < x.2.1
            · rw [if_pos (nI_lt q (by omega)), Nat.min_eq_right (by omega)]
            · rw [if_neg (nI_nlt (by omega) (by omega)), Nat.min_eq_left (by omega)]
          rw [m1, m2]
        · simp only [if_neg e2]
      · show (if mgI M 6300 0 l = 0 then (max x.1 (wnL M l), min x.2.1 (enL M l), x.2.2 + 1) else x).1 ≤ 99 ∧ (if mgI M 6300 0 l = 0 then (max x.1 (wnL M l), min x.2.1 (enL M l), x.2.2 + 1) else x).2.1 ≤ 3
        by_cases e2 : mgI M 6300 0 l = 0
        · rw [if_pos e2]
          exact ⟨Nat.max_le.mpr ⟨hx.1, w1⟩, by show min _ _ ≤ 3; omega⟩
        · rw [if_neg e2]
          exact hx) nL FU (0, 2, 0) (Nat.le_refl _) (FU_lt (by omega)) ⟨Nat.zero_le _, by show 2 ≤ 3; omega⟩
  rw [dns_ac M s nL (0, 2, 0) (by show 2 ≤ 3; omega)] at hl
  have hl2 : fX3_know_l13 C1 s FU (0 : Int32) (2 : Int32) (0 : Int32) (prv (mgI M 5900 0) s nL) = fX3_know_l13 C1 s 1 (nI (acK M s nL).1) (nI (min 2 (acK M s nL).2.1)) (nI (acK M s nL).2.2) none := by
    have := hl
    simp only [Nat.zero_max, Nat.zero_add] at this
    exact this
  rw [hl2]
  obtain ⟨a1, a2, a3, a4⟩ := acK_b h s nL (Nat.le_refl _)
  simp only [fX3_know_l13, fX3_know_b13, oc_NU]
  rw [fC.l (f := 815) rfl, fC.l (f := 505) rfl, show mgL C 815 s 0 = bl C s from rfl, mo_C h fC hs]
  simp only [bd_u, nm_u, cl_0, cl_1, cl_2, cl_3, cl_4, cl_5, cl_6, uI_I, uL_L, uR_R, uI_L, uI_R, uL_I, uL_R, uR_I, uR_L, Nat.reduceEqDiff, false_and, and_false, true_and, and_true, ↓reduceIte]
  have um : ∀ C3, FrC C C3 → fX2_unmarkedOf (bl C s) C3 = some (orU (pUn C M s) (mgI M 1246 0 0).toNatClampNeg) := fun C3 f3 => um_C h f3 (bl C s)
  have bc : fJ13_bitCount_95d88 (orU (pUn C M s) (mgI M 1246 0 0).toNatClampNeg) = kF C M s nL 4 := by
    have hnc := (sm_o1 h).2
    rw [pop64, ctU_ext (a := (mgI M 1246 0 0).toNatClampNeg) (by omega) (fun k h1 h2 => by rw [hB_orU (by omega), decide_eq_false (by omega), Bool.false_and]), ctU_cong (q := pUn C M s) (fun k hk => by rw [hB_orU (by omega), decide_eq_true hk, Bool.true_and])]
    rfl
  rw [fC.l (f := 815) rfl, fC.i (f := 803) rfl, fC.i (f := 811) rfl, show mgL C 815 s 0 = bl C s from rfl, sm_sA h s hs, sm_sT h s hs]
  have key : ∀ (x2 x6 : Int32), x2 = kF C M s nL 2 → x6 = kF C M s nL 6 → ∃ C2, some ((), msI (msI (msI (msI (msI (msI (msI C1 3000 0 0 (kF C M s nL 0)) 3000 0 1 (nI (acK M s nL).1)) 3000 0 2 x2) 3000 0 3 (nI (acK M s nL).2.2)) 3000 0 4 (kF C M s nL 4)) 3000 0 5 (mgI M 5200 0 s)) 3000 0 6 x6) = some ((), C2) ∧ EqOff [3000] C1 C2 ∧ ∀ k, k < 7 → mgI C2 3000 0 k = kF C M s nL k := fun x2 x6 h2 h6 => by
    refine ⟨_, rfl, ((((((EqOff.refl.I rfl).I rfl).I rfl).I rfl).I rfl).I rfl).I rfl, fun k hk => ?_⟩
    have hk7 : k = 0 ∨ k = 1 ∨ k = 2 ∨ k = 3 ∨ k = 4 ∨ k = 5 ∨ k = 6 := by omega
    rcases hk7 with rfl | rfl | rfl | rfl | rfl | rfl | rfl
    · simp only [uI_I, uL_L, uR_R, uI_L, uI_R, uL_I, uL_R, uR_I, uR_L, Nat.reduceEqDiff, false_and, and_false, true_and, and_true, ↓reduceIte]
    · simp only [uI_I, uL_L, uR_R, uI_L, uI_R, uL_I, uL_R, uR_I, uR_L, Nat.reduceEqDiff, false_and, and_false, true_and, and_true, ↓reduceIte]; rfl
    · simp only [uI_I, uL_L, uR_R, uI_L, uI_R, uL_I, uL_R, uR_I, uR_L, Nat.reduceEqDiff, false_and, and_false, true_and, and_true, ↓reduceIte]; exact h2
    · simp only [uI_I, uL_L, uR_R, uI_L, uI_R, uL_I, uL_R, uR_I, uR_L, Nat.reduceEqDiff, false_and, and_false, true_and, and_true, ↓reduceIte]; rfl
    · simp only [uI_I, uL_L, uR_R, uI_L, uI_R, uL_I, uL_R, uR_I, uR_L, Nat.reduceEqDiff, false_and, and_false, true_and, and_true, ↓reduceIte]
    · simp only [uI_I, uL_L, uR_R, uI_L, uI_R, uL_I, uL_R, uR_I, uR_L, Nat.reduceEqDiff, false_and, and_false, true_and, and_true, ↓reduceIte]; rfl
    · simp only [uI_I, uL_L, uR_R, uI_L, uI_R, uL_I, uL_R, uR_I, uR_L, Nat.reduceEqDiff, false_and, and_false, true_and, and_true, ↓reduceIte]; exact h6
  have h6 : ∀ y : Int32, (y = if mgI M 5800 0 s = 0 then 0 else 1) → y = kF C M s nL 6 := fun y hy => hy
  have h2 : ∀ y : Int32, (y = if (acK M s nL).2.2 = 0 then 0 else nI (acK M s nL).2.1) → y = kF C M s nL 2 := fun y hy => hy
  by_cases hz : (acK M s nL).2.2 = 0
  · rw [if_pos (show nI (acK M s nL).2.2 = 0 by rw [hz]; rfl)]
    rw [um _ ((((fC.I (by decide)).I (by decide)).I (by decide)).I (by decide))]
    simp only [bd_u]
    rw [bc]
    by_cases hT : mgI M 5800 0 s = 0
    · rw [if_pos hT]
      exact key _ _ (h2 _ (by rw [if_pos hz])) (h6 _ (by rw [if_pos hT]))
    · rw [if_neg hT]
      exact key _ _ (h2 _ (by rw [if_pos hz])) (h6 _ (by rw [if_neg hT]))
  · rw [if_neg (nI_ne0 (by omega) (by omega)), Nat.min_eq_right (by omega)]
    rw [um _ ((((fC.I (by decide)).I (by decide)).I (by decide)).I (by decide))]
    simp only [bd_u]
    rw [bc]
    by_cases hT : mgI M 5800 0 s = 0
    · rw [if_pos hT]
      exact key _ _ (h2 _ (by rw [if_neg hz])) (h6 _ (by rw [if_pos hT]))
    · rw [if_neg hT]
      exact key _ _ (h2 _ (by rw [if_neg hz])) (h6 _ (by rw [if_neg hT]))
