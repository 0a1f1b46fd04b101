/-! counts and worth -/
theorem lg_le (x y : Int64) : lg_cmp x y ≤ 0 ↔ ¬ y < x := by
  unfold lg_cmp
  by_cases h : x > y
  · rw [if_pos h]
    exact ⟨fun z => absurd z (by decide), fun z => absurd h z⟩
  · rw [if_neg h]
    refine ⟨fun _ => h, fun _ => ?_⟩
    by_cases h2 : x = y
    · rw [if_pos h2]; decide
    · rw [if_neg h2]; decide
def ptL (ln we cn : Nat → Int32) (l : Nat) : Int64 := (cn (ln l).toNatClampNeg).toInt64 * (we l).toInt64 / (100 : Int64)
def tmL (ln we se cn wo : Nat → Int32) (l : Nat) : Int64 := if se l = (1 : Int32) then (-(ptL ln we cn l)) * (wo (ln l).toNatClampNeg).toInt64 else ptL ln we cn l * (wo (ln l).toNatClampNeg).toInt64
def suL (lo dr : Nat → Int32) (g : Nat → Int64) (s : Nat) : Nat → Int64
  | 0 => 0
  | n + 1 => if lo n = nI s ∧ dr n = 0 then suL lo dr g s n + g n else suL lo dr g s n
theorem suL_y {lo dr : Nat → Int32} {g : Nat → Int64} {s n : Nat} (h : lo n = nI s ∧ dr n = 0) : suL lo dr g s (n + 1) = suL lo dr g s n + g n := if_pos h
theorem suL_n {lo dr : Nat → Int32} {g : Nat → Int64} {s n : Nat} (h : ¬ (lo n = nI s ∧ dr n = 0)) : suL lo dr g s (n + 1) = suL lo dr g s n := if_neg h
theorem suL_cong {lo dr : Nat → Int32} {g g' : Nat → Int64} {s : Nat} : ∀ {N : Nat}, (∀ l, l < N → lo l = nI s → dr l = 0 → g l = g' l) → suL lo dr g s N = suL lo dr g' s N
  | 0, _ => rfl
  | N + 1, h => by
    have ih := suL_cong (N := N) (fun l hl => h l (Nat.lt_succ_of_lt hl))
    by_cases e : lo N = nI s ∧ dr N = 0
    · rw [suL_y e, suL_y e, ih, h N (Nat.lt_succ_self N) e.1 e.2]
    · rw [suL_n e, suL_n e, ih]
theorem dns_su (lo dr : Nat → Int32) (g1 g2 : Nat → Int64) (s : Nat) : ∀ (N : Nat) (x : Int64 × Int64), dns lo s (fun l x => if dr l = 0 then (x.1 + g1 l, x.2 + g2 l) else x) N x = (x.1 + suL lo dr g1 s N, x.2 + suL lo dr g2 s N)
  | 0, x => by
    show x = (x.1 + 0, x.2 + 0)
    rw [Int64.add_zero, Int64.add_zero]
  | N + 1, x => by
    by_cases h : lo N = nI s
    · rw [dns_y h, dns_su lo dr g1 g2 s N]
      by_cases h2 : dr N = 0
      · rw [if_pos h2, suL_y ⟨h, h2⟩, suL_y ⟨h, h2⟩, Int64.add_assoc, Int64.add_assoc, Int64.add_comm (g1 N), Int64.add_comm (g2 N)]
      · rw [if_neg h2, suL_n (fun z => h2 z.2), suL_n (fun z => h2 z.2)]
    · rw [dns_n h, suL_n (fun z => h z.1), suL_n (fun z => h z.1), dns_su lo dr g1 g2 s N]
def satI (p : Int64) : Int32 := if lg_cmp p (1000000000 : Int64) ≤ 0 then p.toInt32 else (1000000000 : Int32)
def hwI (p : Int64) : Int32 := if lg_cmp p (0 : Int64) ≤ 0 then 0 else 1
def woI (q p : Int64) : Int32 := if lg_cmp p (0 : Int64) ≤ 0 then 0 else ((fJ9_floorDiv_f86c9 q p).getD 0).toInt32
theorem fd_tot (q p : Int64) (h : ¬ p = 0) : fJ9_floorDiv_f86c9 q p = some ((fJ9_floorDiv_f86c9 q p).getD 0) := by
  have : ∃ g, fJ9_floorDiv_f86c9 q p = some g := by
    unfold fJ9_floorDiv_f86c9 nzL
    rw [if_neg h]
    simp only [nm_u]
    split
    · exact ⟨_, rfl⟩
    · split
      · exact ⟨_, rfl⟩
      · exact ⟨_, rfl⟩
  obtain ⟨g, e⟩ := this
  rw [e]
  rfl
theorem pos_ne {p : Int64} (h : ¬ lg_cmp p (0 : Int64) ≤ 0) : ¬ p = 0 := fun e => h (by rw [e]; decide)
/-- what TAKEN makes of COUNTS -/
def les (M : Mem) (lies stand : Int64) (s : Nat) (x : Int32) : Int32 := if hB lies s = true then 0 else if mgI M 5400 0 s < 0 then x else if hB stand s = true then x else if mgI M 5500 0 s = 1 then 0 else if mgI M 5500 0 s = 0 then ((x.toInt64 * ((10 : Int32) - mgI M 5600 0 s).toInt64) / (10 : Int64)).toInt32 else x / (2 : Int32)
def CnP (M : Mem) (nS nL : Nat) (lies stand : Int64) (cn wo hw : Nat → Int32) : Prop := ∀ s, s < nS →
  (mgI M 5000 0 s = 1 → cn s = les M lies stand s ((20 : Int32) * mgI M 5300 0 s) ∧ wo s = (1000 : Int32) * mgI M 5200 0 s ∧ hw s = 1) ∧
  (¬ mgI M 5000 0 s = 1 → cn s = les M lies stand s (satI (suL (mgI M 5900 0) (mgI M 6300 0) (ptL (mgI M 6000 0) (mgI M 6100 0) cn) s nL)) ∧ hw s = hwI (suL (mgI M 5900 0) (mgI M 6300 0) (ptL (mgI M 6000 0) (mgI M 6100 0) cn) s nL) ∧
    wo s = woI (suL (mgI M 5900 0) (mgI M 6300 0) (tmL (mgI M 6000 0) (mgI M 6100 0) (mgI M 6200 0) cn wo) s nL) (suL (mgI M 5900 0) (mgI M 6300 0) (ptL (mgI M 6000 0) (mgI M 6100 0) cn) s nL))
theorem nar1 : vp_nar .boolean (1 : Int32) = 1 := by decide +kernel
theorem nar0 : vp_nar .boolean (0 : Int32) = 0 := by decide +kernel
set_option maxHeartbeats 4000000 in
theorem fo_l {C M : Mem} {nS nL : Nat} (h : Sim C M nS nL) {s : Nat} (hs : s < nS) (M1 : Mem) (hE : EqOff [6700, 6800, 6900] M M1) : ∃ M2, fX12_findOf (nI s) M1 = some ((), M2) ∧ EqOff [6700, 6800, 6900] M1 M2 ∧
    (∀ t, mgI M2 6700 0 t = if t = s then satI (suL (mgI M 5900 0) (mgI M 6300 0) (ptL (mgI M 6000 0) (mgI M 6100 0) (mgI M1 6700 0)) s nL) else mgI M1 6700 0 t) ∧
    (∀ t, mgI M2 6900 0 t = if t = s then hwI (suL (mgI M 5900 0) (mgI M 6300 0) (ptL (mgI M 6000 0) (mgI M 6100 0) (mgI M1 6700 0)) s nL) else mgI M1 6900 0 t) ∧
    (∀ t, mgI M2 6800 0 t = if t = s then woI (suL (mgI M 5900 0) (mgI M 6300 0) (tmL (mgI M 6000 0) (mgI M 6100 0) (mgI M 6200 0) (mgI M1 6700 0) (mgI M1 6800 0)) s nL) (suL (mgI M 5900 0) (mgI M 6300 0) (ptL (mgI M 6000 0) (mgI M 6100 0) (mgI M1 6700 0)) s nL) else mgI M1 6800 0 t) := by
  have hb : nS ≤ 64 ∧ nL ≤ 200 := sm_b1 h
  have hm := (sm_c2 h).2
  have g := hE.on (K := [1212, 5900, 6000, 6100, 6200, 6300]) rfl
  unfold fX12_findOf
  generalize hp : suL (mgI M 5900 0) (mgI M 6300 0) (ptL (mgI M 6000 0) (mgI M 6100 0) (mgI M1 6700 0)) s = pS
  generalize hq : suL (mgI M 5900 0) (mgI M 6300 0) (tmL (mgI M 6000 0) (mgI M 6100 0) (mgI M 6200 0) (mgI M1 6700 0) (mgI M1 6800 0)) s = qS
  have hl : fX12_findOf_l8 M1 (nI s) FU (0 : Int64) (0 : Int64) (nI 0) = fX12_findOf_l8 M1 (nI s) 1 (pS nL) (qS nL) (nI nL) := by
    have := lpT (fun n i (x : Int64 × Int64) => fX12_findOf_l8 M1 (nI s) n x.1 x.2 (nI i)) nL (fun i => (pS i, qS i)) (fX12_findOf_l8 M1 (nI s) 1 (pS nL) (qS nL) (nI nL)) (fun n => ?_) (fun n i hi => ?_) FU 0 (Nat.zero_le _) (FU_lt (by omega))
    · rw [← hp, ← hq] at this ⊢
      exact this
    · simp only [fX12_findOf_l8, fX12_findOf_b8]
      rw [(g 1212 (by decide)).1, hm, if_pos (nI_le (Nat.le_refl _) (by omega)), if_pos (nI_le (Nat.le_refl _) (by omega))]
    · simp only [fX12_findOf_l8, fX12_findOf_b8]
      rw [(g 1212 (by decide)).1, hm, if_neg (nI_ge hi (by omega))]
      simp only [nm_u, ix_n (show i < 200 by omega) (show 200 < 2 ^ 31 by omega), nI_clamp (show i < 2 ^ 31 by omega), (g 5900 (by decide)).1, (g 6300 (by decide)).1, (g 6000 (by decide)).1, (g 6100 (by decide)).1, (g 6200 (by decide)).1, nI_1]
      by_cases e1 : mgI M 5900 0 i = nI s
      · rw [if_pos e1]
        by_cases e2 : mgI M 6300 0 i = 0
        · rw [if_pos e2]
          obtain ⟨b, hbs, e3⟩ := ln_n h hi hs e1
          rw [e3]
          simp only [ix_n (show b < 64 by omega) (show 64 < 2 ^ 31 by omega), nI_clamp (show b < 2 ^ 31 by omega)]
          rw [← hp, ← hq, suL_y ⟨e1, e2⟩, suL_y ⟨e1, e2⟩]
          unfold tmL ptL
          rw [e3, nI_clamp (by omega)]
          by_cases e4 : mgI M 6200 0 i = 1
          · rw [if_pos e4, if_pos e4]
          · rw [if_neg e4, if_neg e4]
        · rw [if_neg e2, ← hp, ← hq, suL_n (fun z => e2 z.2), suL_n (fun z => e2 z.2)]
      · rw [if_neg e1, ← hp, ← hq, suL_n (fun z => e1 z.1), suL_n (fun z => e1 z.1)]
  rw [show (0 : Int32) = nI 0 from rfl, hl]
  simp only [fX12_findOf_l8, fX12_findOf_b8]
  rw [(g 1212 (by decide)).1, hm, if_pos (nI_le (Nat.le_refl _) (by omega))]
  simp only [nm_u, ix_n (show s < 64 by omega) (show 64 < 2 ^ 31 by omega), nI_clamp (show s < 2 ^ 31 by omega), nar1, nar0]
  generalize pS nL = p
  generalize qS nL = q
  have key : ∀ (a b c : Int32), ∃ M2, some ((), msI (msI (msI M1 6700 0 s a) 6900 0 s b) 6800 0 s c) = some ((), M2) ∧ EqOff [6700, 6800, 6900] M1 M2 ∧ (∀ t, mgI M2 6700 0 t = if t = s then a else mgI M1 6700 0 t) ∧ (∀ t, mgI M2 6900 0 t = if t = s then b else mgI M1 6900 0 t) ∧ (∀ t, mgI M2 6800 0 t = if t = s then c else mgI M1 6800 0 t) := fun a b c =>
    ⟨_, rfl, ((EqOff.refl.I rfl).I rfl).I rfl, fun t => by simp only [uI_I, uL_L, uR_R, uI_L, uI_R, uL_I, uL_R, uR_I, uR_L, Nat.reduceEqDiff, false_and, and_false, true_and, and_true, ↓reduceIte], fun t => by simp only [uI_I, uL_L, uR_R, uI_L, uI_R, uL_I, uL_R, uR_I, uR_L, Nat.reduceEqDiff, false_and, and_false, true_and, and_true, ↓reduceIte], fun t => by simp only [uI_I, uL_L, uR_R, uI_L, uI_R, uL_I, uL_R, uR_I, uR_L, Nat.reduceEqDiff, false_and, and_false, true_and, and_true, ↓reduceIte]⟩
  unfold satI hwI woI
  by_cases h1 : lg_cmp p (1000000000 : Int64) ≤ 0
  · rw [if_pos h1, if_pos h1]
    by_cases h2 : lg_cmp p (0 : Int64) ≤ 0
    · simp only [if_pos h2]
      exact key _ _ _
    · obtain ⟨gv, hg⟩ : ∃ gv, fJ9_floorDiv_f86c9 q p = some gv := ⟨_, fd_tot q p (pos_ne h2)⟩
      simp only [if_neg h2, hg, bd_u, nm_u, ix_n (show s < 64 by omega) (show 64 < 2 ^ 31 by omega), Option.getD_some]
      exact key _ _ _
  · rw [if_neg h1, if_neg h1]
    by_cases h2 : lg_cmp p (0 : Int64) ≤ 0
    · simp only [if_pos h2]
      exact key _ _ _
    · obtain ⟨gv, hg⟩ : ∃ gv, fJ9_floorDiv_f86c9 q p = some gv := ⟨_, fd_tot q p (pos_ne h2)⟩
      simp only [if_neg h2, hg, bd_u, nm_u, ix_n (show s < 64 by omega) (show 64 < 2 ^ 31 by omega), Option.getD_some]
      exact key _ _ _
theorem lt_ex {P : Nat → Prop} {n : Nat} (h : ∀ t, t < n → P t) (hn : P n) : ∀ t, t < n + 1 → P t := fun t ht => by
  by_cases e : t = n
  · rw [e]; exact hn
  · exact h t (by omega)
/-- what stands in the counts of M1 for the stones below s is what CnP asks -/
theorem CnP.grow {M : Mem} {nS nL s : Nat} {lies stand : Int64} {cn wo hw cn' wo' hw' : Nat → Int32} (h : CnP M s nL lies stand cn wo hw) (e1 : ∀ t, t < s → cn' t = cn t) (e2 : ∀ t, t < s → wo' t = wo t) (e3 : ∀ t, t < s → hw' t = hw t) (hl : ∀ l t, l < nL → t < s → mgI M 5900 0 l = nI t → ∃ b, b < t ∧ mgI M 6000 0 l = nI b) (h64 : s ≤ 64) : CnP M s nL lies stand cn' wo' hw' := fun t ht => by
  have hc : ∀ l, l < nL → mgI M 5900 0 l = nI t → mgI M 6300 0 l = 0 → ptL (mgI M 6000 0) (mgI M 6100 0) cn' l = ptL (mgI M 6000 0) (mgI M 6100 0) cn l := fun l hl' e _ => by
    obtain ⟨b, hb, e4⟩ := hl l t hl' ht e
    unfold ptL
    rw [e4, nI_clamp (by omega), e1 b (by omega)]
  have hw' : ∀ l, l < nL → mgI M 5900 0 l = nI t → mgI M 6300 0 l = 0 → tmL (mgI M 6000 0) (mgI M 6100 0) (mgI M 6200 0) cn' wo' l = tmL (mgI M 6000 0) (mgI M 6100 0) (mgI M 6200 0) cn wo l := fun l hl' e e6 => by
    have e5 := hc l hl' e e6
    obtain ⟨b, hb, e4⟩ := hl l t hl' ht e
    unfold tmL
    rw [e5, e4, nI_clamp (by omega), e2 b (by omega)]
  rw [e1 t ht, e2 t ht, e3 t ht, suL_cong hc, suL_cong hw']
  exact h t ht
theorem fc_q {C M : Mem} {nS nL : Nat} (h : Sim C M nS nL) (lies stand : Int64) : ∃ M', fX12_findCounts lies stand M = some ((), M') ∧ EqOff [6700, 6800, 6900] M M' ∧ CnP M nS nL lies stand (mgI M' 6700 0) (mgI M' 6800 0) (mgI M' 6900 0) := by
  have hb : nS ≤ 64 ∧ nL ≤ 200 := sm_b1 h
  have hm := (sm_c2 h).1
  have hln : ∀ l t, l < nL → t < nS → mgI M 5900 0 l = nI t → ∃ b, b < t ∧ mgI M 6000 0 l = nI b := fun l t hl ht e => ln_n h hl ht e
  have H := lpR (fun n i (M1 : Mem) => fX12_findCounts_l3 lies stand n (nI i) M1) (fun r => EqOff [6700, 6800, 6900] M r.2 ∧ CnP M nS nL lies stand (mgI r.2 6700 0) (mgI r.2 6800 0) (mgI r.2 6900 0)) nS (fun i M1 => EqOff [6700, 6800, 6900] M M1 ∧ CnP M i nL lies stand (mgI M1 6700 0) (mgI M1 6800 0) (mgI M1 6900 0)) (fun n M1 hI => ?_) (fun n s M1 hs hI k => ?_) FU 0 M (Nat.zero_le _) ⟨EqOff.refl, fun t ht => absurd ht (Nat.not_lt_zero t)⟩ (FU_lt (by omega))
  · obtain ⟨r, e, hr⟩ := H
    exact ⟨r.2, e, hr⟩
  · have g := hI.1.on (K := [1202]) rfl
    simp only [fX12_findCounts_l3, fX12_findCounts_b3]
    rw [(g 1202 (by decide)).1, hm, if_pos (nI_le (Nat.le_refl _) (by omega))]
    exact Rt_s hI
  · have g := hI.1.on (K := [1202, 5000, 5200, 5300, 5400, 5500, 5600]) rfl
    simp only [fX12_findCounts_l3, fX12_findCounts_b3]
    rw [(g 1202 (by decide)).1, hm, if_neg (nI_ge hs (by omega))]
    simp only [nm_u, ix_n (show s < 64 by omega) (show 64 < 2 ^ 31 by omega), nI_clamp (show s < 2 ^ 31 by omega), (g 5000 (by decide)).1, (g 5300 (by decide)).1, (g 5200 (by decide)).1, nI_1, nar1]
    -- what comes behind the counts of a stone
    have tail : ∀ (M7 : Mem) (x : Int32), EqOff [6700, 6800, 6900] M M7 → mgI M7 6700 0 s = x → (∀ t, t < s → mgI M7 6700 0 t = mgI M1 6700 0 t ∧ mgI M7 6800 0 t = mgI M1 6800 0 t ∧ mgI M7 6900 0 t = mgI M1 6900 0 t) →
        (∀ M8 : Mem, EqOff [6700] M7 M8 → (∀ t, mgI M8 6700 0 t = if t = s then les M lies stand s x else mgI M7 6700 0 t) → EqOff [6700, 6800, 6900] M M8 ∧ CnP M (s + 1) nL lies stand (mgI M8 6700 0) (mgI M8 6800 0) (mgI M8 6900 0)) →
        Rt (if lg_cmp ((lies >>> ((nI s).toInt64 &&& 63)) &&& (1 : Int64)) (1 : Int64) = 0 then fX12_findCounts_l3 lies stand n (nI (s + 1)) (msI M7 6700 0 s (0 : Int32)) else if mgI M7 5400 0 s < 0 then fX12_findCounts_l3 lies stand n (nI (s + 1)) M7 else if lg_cmp ((stand >>> ((nI s).toInt64 &&& 63)) &&& (1 : Int64)) (1 : Int64) = 0 then fX12_findCounts_l3 lies stand n (nI (s + 1)) M7 else if mgI M7 5500 0 s = 1 then fX12_findCounts_l3 lies stand n (nI (s + 1)) (msI M7 6700 0 s (0 : Int32)) else if mgI M7 5500 0 s = 0 then fX12_findCounts_l3 lies stand n (nI (s + 1)) (msI M7 6700 0 s (((mgI M7 6700 0 s).toInt64 * ((10 : Int32) - mgI M7 5600 0 s).toInt64) / (10 : Int64)).toInt32) else fX12_findCounts_l3 lies stand n (nI (s + 1)) (msI M7 6700 0 s (mgI M7 6700 0 s / (2 : Int32)))) (fun r => EqOff [6700, 6800, 6900] M r.2 ∧ CnP M nS nL lies stand (mgI r.2 6700 0) (mgI r.2 6800 0) (mgI r.2 6900 0)) := fun M7 x h7 hx hk hf => by
      have g7 := h7.on (K := [5400, 5500, 5600]) rfl
      rw [(g7 5400 (by decide)).1, (g7 5500 (by decide)).1, (g7 5600 (by decide)).1, hx]
      have put : ∀ y : Int32, les M lies stand s x = y → Rt (fX12_findCounts_l3 lies stand n (nI (s + 1)) (msI M7 6700 0 s y)) (fun r => EqOff [6700, 6800, 6900] M r.2 ∧ CnP M nS nL lies stand (mgI r.2 6700 0) (mgI r.2 6800 0) (mgI r.2 6900 0)) := fun y hy =>
        k _ (hf _ (EqOff.refl.I rfl) (fun t => by rw [hy]; simp only [uI_I, uL_L, uR_R, uI_L, uI_R, uL_I, uL_R, uR_I, uR_L, Nat.reduceEqDiff, false_and, and_false, true_and, and_true, ↓reduceIte]))
      have same : les M lies stand s x = x → Rt (fX12_findCounts_l3 lies stand n (nI (s + 1)) M7) (fun r => EqOff [6700, 6800, 6900] M r.2 ∧ CnP M nS nL lies stand (mgI r.2 6700 0) (mgI r.2 6800 0) (mgI r.2 6900 0)) := fun hy =>
        k _ (hf _ EqOff.refl (fun t => by
          rw [hy]
          by_cases e : t = s
          · rw [if_pos e, e]; exact hx
          · rw [if_neg e]))
      unfold les at put same
      by_cases q1 : hB lies s = true
      · rw [if_pos ((onb_q _ (by omega)).mpr q1)]
        exact put _ (if_pos q1)
      · rw [if_neg (fun z => q1 ((onb_q _ (by omega)).mp z))]
        simp only [if_neg q1] at put same
        by_cases q2 : mgI M 5400 0 s < 0
        · rw [if_pos q2]
          exact same (if_pos q2)
        · rw [if_neg q2]
          simp only [if_neg q2] at put same
          by_cases q3 : hB stand s = true
          · rw [if_pos ((onb_q _ (by omega)).mpr q3)]
            exact same (if_pos q3)
          · rw [if_neg (fun z => q3 ((onb_q _ (by omega)).mp z))]
            simp only [if_neg q3] at put same
            by_cases q4 : mgI M 5500 0 s = 1
            · rw [if_pos q4]
              exact put _ (if_pos q4)
            · rw [if_neg q4]
              simp only [if_neg q4] at put same
              by_cases q5 : mgI M 5500 0 s = 0
              · rw [if_pos q5]
                exact put _ (if_pos q5)
              · rw [if_neg q5]
                exact put _ (if_neg q5)
    have grow : ∀ M8 : Mem, (∀ t, t < s → mgI M8 6700 0 t = mgI M1 6700 0 t ∧ mgI M8 6800 0 t = mgI M1 6800 0 t ∧ mgI M8 6900 0 t = mgI M1 6900 0 t) → CnP M s nL lies stand (mgI M8 6700 0) (mgI M8 6800 0) (mgI M8 6900 0) := fun M8 h8 =>
      hI.2.grow (nS := nS) (fun t ht => (h8 t ht).1) (fun t ht => (h8 t ht).2.1) (fun t ht => (h8 t ht).2.2) (fun l t hl ht e => hln l t hl (by omega) e) (by omega)
    by_cases hk : mgI M 5000 0 s = 1
    · rw [if_pos hk]
      simp only [uI_I, uL_L, uR_R, uI_L, uI_R, uL_I, uL_R, uR_I, uR_L, Nat.reduceEqDiff, false_and, and_false, true_and, and_true, ↓reduceIte, (g 5200 (by decide)).1]
      have hE : EqOff [6700, 6800, 6900] M (msI (msI (msI M1 6700 0 s ((20 : Int32) * mgI M 5300 0 s)) 6800 0 s ((1000 : Int32) * mgI M 5200 0 s)) 6900 0 s 1) := ((hI.1.I rfl).I rfl).I rfl
      have a7 : ∀ t, mgI (msI (msI (msI M1 6700 0 s ((20 : Int32) * mgI M 5300 0 s)) 6800 0 s ((1000 : Int32) * mgI M 5200 0 s)) 6900 0 s 1) 6700 0 t = if t = s then (20 : Int32) * mgI M 5300 0 s else mgI M1 6700 0 t := fun t => by simp only [uI_I, uL_L, uR_R, uI_L, uI_R, uL_I, uL_R, uR_I, uR_L, Nat.reduceEqDiff, false_and, and_false, true_and, and_true, ↓reduceIte]
      have a8 : ∀ t, mgI (msI (msI (msI M1 6700 0 s ((20 : Int32) * mgI M 5300 0 s)) 6800 0 s ((1000 : Int32) * mgI M 5200 0 s)) 6900 0 s 1) 6800 0 t = if t = s then (1000 : Int32) * mgI M 5200 0 s else mgI M1 6800 0 t := fun t => by simp only [uI_I, uL_L, uR_R, uI_L, uI_R, uL_I, uL_R, uR_I, uR_L, Nat.reduceEqDiff, false_and, and_false, true_and, and_true, ↓reduceIte]
      have a9 : ∀ t, mgI (msI (msI (msI M1 6700 0 s ((20 : Int32) * mgI M 5300 0 s)) 6800 0 s ((1000 : Int32) * mgI M 5200 0 s)) 6900 0 s 1) 6900 0 t = if t = s then 1 else mgI M1 6900 0 t := fun t => by simp only [uI_I, uL_L, uR_R, uI_L, uI_R, uL_I, uL_R, uR_I, uR_L, Nat.reduceEqDiff, false_and, and_false, true_and, and_true, ↓reduceIte]
      have a5 : ∀ f, f = 5400 ∨ f = 5500 ∨ f = 5600 → mgI (msI (msI (msI M1 6700 0 s ((20 : Int32) * mgI M 5300 0 s)) 6800 0 s ((1000 : Int32) * mgI M 5200 0 s)) 6900 0 s 1) f 0 s = mgI M1 f 0 s := fun f hf => by
        rcases hf with rfl | rfl | rfl <;> simp only [uI_I, uL_L, uR_R, uI_L, uI_R, uL_I, uL_R, uR_I, uR_L, Nat.reduceEqDiff, false_and, and_false, true_and, and_true, ↓reduceIte]
      rw [← a5 5400 (Or.inl rfl), ← a5 5500 (Or.inr (Or.inl rfl)), ← a5 5600 (Or.inr (Or.inr rfl))]
      generalize msI (msI (msI M1 6700 0 s ((20 : Int32) * mgI M 5300 0 s)) 6800 0 s ((1000 : Int32) * mgI M 5200 0 s)) 6900 0 s 1 = M7 at hE a7 a8 a9 ⊢
      have hx : mgI M7 6700 0 s = (20 : Int32) * mgI M 5300 0 s := by rw [a7, if_pos rfl]
      rw [← hx]
      refine tail M7 _ hE rfl (fun t ht => by rw [a7, a8, a9, if_neg (by omega), if_neg (by omega), if_neg (by omega)]; exact ⟨rfl, rfl, rfl⟩) (fun M8 d1 d2 => ?_)
      have d3 := d1.on (K := [6800, 6900]) rfl
      refine ⟨EqOff.trans hE (d1.wide rfl), lt_ex (grow M8 (fun t ht => ?_)) ?_⟩
      · rw [d2, (d3 6800 (by decide)).1, (d3 6900 (by decide)).1, if_neg (by omega), a7, a8, a9, if_neg (by omega), if_neg (by omega), if_neg (by omega)]
        exact ⟨rfl, rfl, rfl⟩
      · refine ⟨fun _ => ⟨?_, ?_, ?_⟩, fun z => absurd hk z⟩
        · rw [d2, if_pos rfl, hx]
        · rw [(d3 6800 (by decide)).1, a8, if_pos rfl]
        · rw [(d3 6900 (by decide)).1, a9, if_pos rfl]
    · rw [if_neg hk]
      obtain ⟨M7, e0, hE, a7, a9, a8⟩ := fo_l h hs M1 hI.1
      rw [e0]
      simp only [bE_u]
      have hE7 : EqOff [6700, 6800, 6900] M M7 := EqOff.trans hI.1 hE
      refine tail M7 _ hE7 rfl (fun t ht => by rw [a7, a8, a9, if_neg (by omega), if_neg (by omega), if_neg (by omega)]; exact ⟨rfl, rfl, rfl⟩) (fun M8 d1 d2 => ?_)
      have d3 := d1.on (K := [6800, 6900]) rfl
      refine ⟨EqOff.trans hE7 (d1.wide rfl), lt_ex (grow M8 (fun t ht => ?_)) ?_⟩
      · rw [d2, (d3 6800 (by decide)).1, (d3 6900 (by decide)).1, if_neg (by omega), a7, a8, a9, if_neg (by omega), if_neg (by omega), if_neg (by omega)]
        exact ⟨rfl, rfl, rfl⟩
      · have c1 : ∀ l, l < nL → mgI M 5900 0 l = nI s → mgI M 6300 0 l = 0 → ptL (mgI M 6000 0) (mgI M 6100 0) (mgI M8 6700 0) l = ptL (mgI M 6000 0) (mgI M 6100 0) (mgI M1 6700 0) l := fun l hl e _ => by
          obtain ⟨b, hb', e4⟩ := hln l s hl hs e
          unfold ptL
          rw [e4, nI_clamp (by omega), d2, if_neg (by omega), a7, if_neg (by omega)]
        have c2 : ∀ l, l < nL → mgI M 5900 0 l = nI s → mgI M 6300 0 l = 0 → tmL (mgI M 6000 0) (mgI M 6100 0) (mgI M 6200 0) (mgI M8 6700 0) (mgI M8 6800 0) l = tmL (mgI M 6000 0) (mgI M 6100 0) (mgI M 6200 0) (mgI M1 6700 0) (mgI M1 6800 0) l := fun l hl e e6 => by
          have e5 := c1 l hl e e6
          obtain ⟨b, hb', e4⟩ := hln l s hl hs e
          have h8 : mgI M8 6800 0 b = mgI M1 6800 0 b := by rw [(d3 6800 (by decide)).1, a8, if_neg (by omega)]
          unfold tmL
          rw [e5, e4, nI_clamp (by omega), h8]
        refine ⟨fun z => absurd z hk, fun _ => ?_⟩
        rw [suL_cong c1, suL_cong c2]
        refine ⟨?_, ?_, ?_⟩
        · rw [d2, if_pos rfl, a7, if_pos rfl]
        · rw [(d3 6900 (by decide)).1, a9, if_pos rfl]
        · rw [(d3 6800 (by decide)).1, a8, if_pos rfl]
