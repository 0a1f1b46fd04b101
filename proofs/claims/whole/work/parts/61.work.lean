theorem ptL_b {ln we cn : Nat → Int32} {l b c w : Nat} (e1 : ln l = nI b) (hb : b < 64) (e2 : cn b = nI c) (hc : c ≤ 1000000000) (e3 : we l = nI w) (hw : w ≤ 99) : ptL ln we cn l = lN (c * w / 100) ∧ c * w / 100 ≤ 1000000000 := by
  have hcw : c * w ≤ 1000000000 * 99 := Nat.mul_le_mul hc hw
  refine ⟨?_, by omega⟩
  unfold ptL
  rw [e1, nI_clamp (by omega), e2, e3, nI_l (by omega), nI_l (by omega), lN_mul, show (100 : Int64) = lN 100 from rfl, pk_lDiv (by omega) (by omega) (by omega)]
theorem suL_b {lo dr : Nat → Int32} {g : Nat → Int64} {s : Nat} : ∀ {N : Nat}, (∀ l, l < N → lo l = nI s → ∃ c, c ≤ 1000000000 ∧ g l = lN c) → ∃ n, n ≤ N * 1000000000 ∧ suL lo dr g s N = lN n
  | 0, _ => ⟨0, Nat.zero_le _, rfl⟩
  | N + 1, h => by
    obtain ⟨n, hn, e⟩ := suL_b (N := N) (dr := dr) (fun l hl => h l (Nat.lt_succ_of_lt hl))
    by_cases hc : lo N = nI s ∧ dr N = 0
    · obtain ⟨c, h1, h2⟩ := h N (Nat.lt_succ_self N) hc.1
      exact ⟨n + c, by omega, by rw [suL_y hc, e, h2, lN_add]⟩
    · exact ⟨n, Nat.le_trans hn (Nat.mul_le_mul_right _ (Nat.le_succ N)), by rw [suL_n hc, e]⟩
theorem lgN {a b : Nat} (ha : a < 2 ^ 63) (hb : b < 2 ^ 63) : lg_cmp (lN a) (lN b) ≤ 0 ↔ a ≤ b := by
  rw [lg_le, pk_lLT hb ha]
  omega
theorem satI_b {n : Nat} (hn : n < 2 ^ 62) : ∃ c, c ≤ 1000000000 ∧ satI (lN n) = nI c ∧ (n = 0 → c = 0) := by
  unfold satI
  by_cases h : n ≤ 1000000000
  · rw [if_pos (show lg_cmp (lN n) (1000000000 : Int64) ≤ 0 from (lgN (b := 1000000000) (by omega) (by omega)).mpr h), lN_i]
    exact ⟨n, h, rfl, fun e => e⟩
  · rw [if_neg (show ¬ lg_cmp (lN n) (1000000000 : Int64) ≤ 0 from fun z => h ((lgN (b := 1000000000) (by omega) (by omega)).mp z))]
    exact ⟨1000000000, Nat.le_refl _, rfl, fun e => by omega⟩
theorem hwI_b {n : Nat} (hn : n < 2 ^ 62) (h : hwI (lN n) = 0) : n = 0 := by
  unfold hwI at h
  by_cases h0 : lg_cmp (lN n) (0 : Int64) ≤ 0
  · have := (lgN (a := n) (b := 0) (by omega) (by omega)).mp h0
    omega
  · rw [if_neg h0] at h
    exact absurd h one_ne
theorem les_b {C M : Mem} {nS nL : Nat} (h : Sim C M nS nL) (lies stand : Int64) {s c : Nat} (hs : s < nS) (hc : c ≤ 1000000000) : ∃ c', c' ≤ c ∧ les M lies stand s (nI c) = nI c' := by
  unfold les
  split
  · exact ⟨0, Nat.zero_le _, rfl⟩
  · rcases sm_vT h s hs with ⟨e1, e2⟩ | ⟨m, w, hm, e1, hw, e2, hp⟩
    · rw [e1, if_pos (by decide)]
      exact ⟨c, Nat.le_refl _, rfl⟩
    · rw [e1, e2, if_neg (nI_pos (by have := (sm_n1 h).2; omega))]
      split
      · exact ⟨c, Nat.le_refl _, rfl⟩
      · split
        · exact ⟨0, Nat.zero_le _, rfl⟩
        · split
          · rename_i h0
            obtain ⟨t, t1, t2, e3⟩ := hp ((nI_eq (b := 0) (by omega) (by omega)).mp h0)
            have hct : c * (10 - t) ≤ c * 9 := Nat.mul_le_mul_left c (by omega)
            refine ⟨c * (10 - t) / 10, by omega, ?_⟩
            rw [e3, show (10 : Int32) - nI t = nI (10 - t) from pk_sub (a := 10) (by omega), nI_l (by omega), nI_l (by omega), lN_mul, show (10 : Int64) = lN 10 from rfl, pk_lDiv (by omega) (by omega) (by omega), lN_i]
          · exact ⟨c / 2, Nat.div_le_self _ _, pk_div (d := 2) (by omega) (by omega) (by omega)⟩
theorem CnP_b {C M : Mem} {nS nL : Nat} (h : Sim C M nS nL) {lies stand : Int64} {cn wo hw : Nat → Int32} (hc : CnP M nS nL lies stand cn wo hw) : ∀ s, s < nS → (∃ c, c ≤ 1000000000 ∧ cn s = nI c ∧ (hw s = 0 → c = 0)) := by
  have hb : nS ≤ 64 ∧ nL ≤ 200 := sm_b1 h
  intro s
  induction s using Nat.strongRecOn with
  | _ s ih =>
    intro hs
    by_cases hk : mgI M 5000 0 s = 1
    · obtain ⟨h1, h2, h3⟩ := (hc s hs).1 hk
      obtain ⟨b, hb9, eb⟩ := sm_vB h s hs hk
      obtain ⟨c', hc', ec⟩ := les_b h lies stand hs (c := 20 * b) (by omega)
      refine ⟨c', by omega, ?_, fun z => absurd (h3.symm.trans z) one_ne⟩
      rw [h1, eb, show (20 : Int32) * nI b = nI (20 * b) from pk_mul 20 b, ec]
    · obtain ⟨h1, h2, h3⟩ := (hc s hs).2 hk
      obtain ⟨n, hn, en⟩ := suL_b (lo := mgI M 5900 0) (dr := mgI M 6300 0) (g := ptL (mgI M 6000 0) (mgI M 6100 0) cn) (s := s) (N := nL) (fun l hl e => by
        obtain ⟨b, hbs, e3⟩ := ln_n h hl hs e
        obtain ⟨w, w1, w2, e4⟩ := sm_vW h l hl
        obtain ⟨c, c1, c2, -⟩ := ih b hbs (by omega)
        have := ptL_b e3 (by omega) c2 c1 e4 w2
        exact ⟨_, this.2, this.1⟩)
      have hn2 : n < 2 ^ 62 := by
        have : n ≤ 200 * 1000000000 := Nat.le_trans hn (Nat.mul_le_mul_right _ hb.2)
        omega
      obtain ⟨c, c1, c2, c3⟩ := satI_b hn2
      obtain ⟨c', hc', ec⟩ := les_b h lies stand hs c1
      refine ⟨c', by omega, by rw [h1, en, c2, ec], fun z => ?_⟩
      rw [h2, en] at z
      have := c3 (hwI_b hn2 z)
      omega
theorem CnP_cong {M M' : Mem} {nS nL : Nat} {lies stand : Int64} {cn wo hw : Nat → Int32} (h : CnP M nS nL lies stand cn wo hw) (f : FrM M M') : CnP M' nS nL lies stand cn wo hw := by
  intro s hs
  have := h s hs
  unfold les at this ⊢
  rw [f.i (f := 5000) rfl, f.i (f := 5300) rfl, f.i (f := 5200) rfl, f.i (f := 5400) rfl, f.i (f := 5500) rfl, f.i (f := 5600) rfl, f.i (f := 5900) rfl, f.i (f := 6000) rfl, f.i (f := 6100) rfl, f.i (f := 6200) rfl, f.i (f := 6300) rfl]
  exact this
/-- the worth as the component holds it -/
def wC (wo hw : Nat → Int32) (s : Nat) : Int32 := if hw s = 0 then (-2000000000 : Int32) else wo s
theorem min_sat (p : Int64) : (if (1000000000 : Int64) < p then (1000000000 : Int64) else p).toInt32 = satI p := by
  unfold satI
  by_cases h : (1000000000 : Int64) < p
  · rw [if_pos h, if_neg (fun z => (lg_le _ _).mp z h)]
    decide
  · rw [if_neg h, if_pos ((lg_le _ _).mpr h)]
theorem neg0L (x : Int64) : (-(0 : Int64)) * x = 0 * x := by
  congr 1
set_option maxHeartbeats 4000000 in
theorem wg_q {C M : Mem} {nS nL : Nat} (h : Sim C M nS nL) {lies stand : Int64} {cn wo hw : Nat → Int32} (hc : CnP M nS nL lies stand cn wo hw) {s : Nat} (hs : s < nS) (C1 : Mem) (hE : EqOff [4100, 4200] C C1) (hd : ∀ o, o < nS → hB (bl C s) o = true → mgI C1 4100 0 o = cn o ∧ mgI C1 4200 0 o = wC wo hw o) :
    ∃ C2 x, fX9_weigh (some s) C1 = some ((), C2) ∧ EqOff [4100, 4200] C1 C2 ∧ cn s = les M lies stand s x ∧ (∀ t, mgI C2 4100 0 t = if t = s then x else mgI C1 4100 0 t) ∧ (∀ t, mgI C2 4200 0 t = if t = s then wC wo hw s else mgI C1 4200 0 t) := by
  have hb : nS ≤ 64 ∧ nL ≤ 200 := sm_b1 h
  have g := hE.on (K := [800, 801, 803, 804, 813, 400, 401, 402, 403, 404, 405]) rfl
  have hBd := CnP_b h hc
  unfold fX9_weigh
  simp only [oc_SU, nm_u, uI_I, uL_L, uR_R, uI_L, uI_R, uL_I, uL_R, uR_I, uR_L, Nat.reduceEqDiff, false_and, and_false, true_and, and_true, ↓reduceIte, (g 801 (by decide)).1, (g 800 (by decide)).1, (g 803 (by decide)).1, (g 804 (by decide)).1, (g 813 (by decide)).2.2]
  rw [sm_sK h s hs, sm_s0 h s hs, sm_sA h s hs, sm_sB h s hs, sm_h1 h s hs]
  have key : ∀ a b : Int32, ∃ C2, some ((), msI (msI C1 4100 0 s a) 4200 0 s b) = some ((), C2) ∧ EqOff [4100, 4200] C1 C2 ∧ (∀ t, mgI C2 4100 0 t = if t = s then a else mgI C1 4100 0 t) ∧ (∀ t, mgI C2 4200 0 t = if t = s then b else mgI C1 4200 0 t) := fun a b =>
    ⟨_, rfl, (EqOff.refl.I rfl).I rfl, fun t => by simp only [uI_I, uL_L, uR_R, uI_L, uI_R, uL_I, uL_R, uR_I, uR_L, Nat.reduceEqDiff, false_and, and_false, true_and, and_true, ↓reduceIte], fun t => by simp only [uI_I, uL_L, uR_R, uI_L, uI_R, uL_I, uL_R, uR_I, uR_L, Nat.reduceEqDiff, false_and, and_false, true_and, and_true, ↓reduceIte]⟩
  by_cases hk : mgI M 5000 0 s = 1
  · obtain ⟨h1, h2, h3⟩ := (hc s hs).1 hk
    have hw1 : wC wo hw s = (1000 : Int32) * mgI M 5200 0 s := by unfold wC; rw [h3, if_neg one_ne, h2]
    rw [if_pos hk, hw1]
    simp only [ix_n (show s < 64 by omega) (show 64 < 2 ^ 31 by omega), nI_clamp (show s < 2 ^ 31 by omega)]
    obtain ⟨C2, k1, k2, k3, k4⟩ := key (mgI M 5300 0 s * (20 : Int32)) (mgI M 5200 0 s * (1000 : Int32))
    refine ⟨C2, _, k1, k2, ?_, k3, ?_⟩
    · rw [h1, Int32.mul_comm]
    · intro t; rw [k4, Int32.mul_comm]
  · obtain ⟨h1, h2, h3⟩ := (hc s hs).2 hk
    rw [if_neg hk]
    have hl := lpL (fun n o (x : Int64 × Int64) => fX9_weigh_l53 C1 s n x.1 x.2 o) (mgI M 5900 0) s nL (fun _ => True) (fun l x => if mgI M 6300 0 l = 0 then (x.1 + ptL (mgI M 6000 0) (mgI M 6100 0) cn l, x.2 + tmL (mgI M 6000 0) (mgI M 6100 0) (mgI M 6200 0) cn wo l) else x) (fun x => fX9_weigh_l53 C1 s 1 x.1 x.2 none)
      (fun n x _ => by simp only [fX9_weigh_l53, fX9_weigh_b53, oc_NU])
      (fun n l x hl e _ => by
        refine ⟨?_, trivial⟩
        simp only [fX9_weigh_l53, fX9_weigh_b53, oc_SU, nm_u]
        rw [(g 405 (by decide)).1, (g 401 (by decide)).1, (g 402 (by decide)).2.2, (g 403 (by decide)).1, (g 404 (by decide)).1, sm_l5 h l hl, sm_l1 h l hl, sm_l3 h l hl, sm_l4 h l hl, sm_h2 h l s hl hs e]
        by_cases e2 : mgI M 6300 0 l = 0
        · simp only [if_pos e2]
          obtain ⟨b, hbs, e3⟩ := ln_n h hl hs e
          have hin : hB (bl C s) b = true := (bl_h h hs b).mpr ⟨l, hl, e, e2, b, by omega, e3, Or.inl rfl⟩
          obtain ⟨d1, d2⟩ := hd b (by omega) hin
          rw [e3]
          simp only [ix_n (show b < 64 by omega) (show 64 < 2 ^ 31 by omega), nI_clamp (show b < 2 ^ 31 by omega), d1, d2]
          have ept : (cn b).toInt64 * (mgI M 6100 0 l).toInt64 / (100 : Int64) = ptL (mgI M 6000 0) (mgI M 6100 0) cn l := by
            unfold ptL
            rw [e3, nI_clamp (by omega)]
          rw [ept]
          have ew : ∀ y : Int64, (y = ptL (mgI M 6000 0) (mgI M 6100 0) cn l ∨ y = -ptL (mgI M 6000 0) (mgI M 6100 0) cn l) → y * (wC wo hw b).toInt64 = y * (wo b).toInt64 := fun y hy => by
            unfold wC
            by_cases hz : hw b = 0
            · obtain ⟨c, c1, c2, c3⟩ := hBd b (by omega)
              obtain ⟨w, w1, w2, e4⟩ := sm_vW h l hl
              have hp := (ptL_b (ln := mgI M 6000 0) (we := mgI M 6100 0) e3 (by omega) c2 c1 e4 w2).1
              rw [c3 hz, Nat.zero_mul, Nat.zero_div] at hp
              have y0 : y = 0 := by
                rcases hy with hy | hy
                · rw [hy, hp]; rfl
                · rw [hy, hp]; decide
              rw [y0, Int64.zero_mul, Int64.zero_mul]
            · rw [if_neg hz]
          by_cases e4 : mgI M 6200 0 l = 1
          · rw [if_pos e4, ew _ (Or.inr rfl)]
            unfold tmL
            rw [if_pos e4, e3, nI_clamp (by omega)]
          · rw [if_neg e4, ew _ (Or.inl rfl)]
            unfold tmL
            rw [if_neg e4, e3, nI_clamp (by omega)]
        · simp only [if_neg e2]) nL FU (0, 0) (Nat.le_refl _) (FU_lt (by omega)) trivial
    rw [dns_su] at hl
    simp only [Int64.zero_add] at hl
    rw [hl]
    simp only [fX9_weigh_l53, fX9_weigh_b53, oc_NU, nm_u, uI_I, uL_L, uR_R, uI_L, uI_R, uL_I, uL_R, uR_I, uR_L, Nat.reduceEqDiff, false_and, and_false, true_and, and_true, ↓reduceIte, min_sat]
    rw [(g 800 (by decide)).1, sm_s0 h s hs]
    simp only [ix_n (show s < 64 by omega) (show 64 < 2 ^ 31 by omega), nI_clamp (show s < 2 ^ 31 by omega)]
    unfold wC
    generalize suL (mgI M 5900 0) (mgI M 6300 0) (ptL (mgI M 6000 0) (mgI M 6100 0) cn) s nL = p at h1 h2 h3 ⊢
    generalize suL (mgI M 5900 0) (mgI M 6300 0) (tmL (mgI M 6000 0) (mgI M 6100 0) (mgI M 6200 0) cn wo) s nL = q at h3 ⊢
    rw [h2, h3]
    unfold hwI woI
    by_cases h2 : lg_cmp p (0 : Int64) ≤ 0
    · simp only [if_pos h2, ↓reduceIte]
      obtain ⟨C2, k1, k2, k3, k4⟩ := key (satI p) (-2000000000 : Int32)
      exact ⟨C2, _, k1, k2, h1, k3, k4⟩
    · obtain ⟨gv, hg⟩ : ∃ gv, fJ9_floorDiv_f86c9 q p = some gv := ⟨_, fd_tot q p (pos_ne h2)⟩
      simp only [if_neg h2, hg, bd_u, nm_u, ix_n (show s < 64 by omega) (show 64 < 2 ^ 31 by omega), Option.getD_some, if_neg one_ne]
      obtain ⟨C2, k1, k2, k3, k4⟩ := key (satI p) gv.toInt32
      exact ⟨C2, _, k1, k2, h1, k3, k4⟩
theorem les_eq {C M : Mem} {nS nL : Nat} (h : Sim C M nS nL) (lies stand : Int64) {s : Nat} (hs : s < nS) (x : Int32) : les M lies stand s x = fX9_lessened x (if hB lies s = true then 1 else if hB stand s = true then -1 else mgI M 5500 0 s) (mgI M 5600 0 s) := by
  unfold les fX9_lessened
  by_cases q1 : hB lies s = true
  · rw [if_pos q1, if_pos q1, if_neg one_ne, if_pos rfl]
  · rw [if_neg q1, if_neg q1]
    by_cases q2 : hB stand s = true
    · rw [if_pos q2, if_pos q2, ite_self, if_neg (by decide), if_neg (by decide), if_neg (by decide)]
    · rw [if_neg q2, if_neg q2]
      rcases sm_vT h s hs with ⟨e1, e2⟩ | ⟨m, w, hm, e1, hw, e2, hp⟩
      · rw [e1, e2, if_pos (by decide), if_neg (by decide), if_neg (by decide), if_neg (by decide)]
      · rw [e1, e2, if_neg (nI_pos (by have := (sm_n1 h).2; omega))]
        have hw3 : w = 0 ∨ w = 1 ∨ w = 2 := by omega
        rcases hw3 with rfl | rfl | rfl
        · rw [if_neg (by decide), if_pos (by decide), if_pos (by decide)]
        · rw [if_pos (by decide), if_neg (by decide), if_pos (by decide)]
        · rw [if_neg (by decide), if_neg (by decide), if_neg (by decide), if_neg (by decide), if_pos (by decide)]
theorem wk_q {C M : Mem} {nS nL : Nat} (h : Sim C M nS nL) {lies stand within : Int64} {cn wo hw : Nat → Int32} (hc : CnP M nS nL lies stand cn wo hw) (hcl : ∀ s, s < nS → hB within s = true → ∀ o, hB (bl C s) o = true → hB within o = true) :
    ∃ C', fX9_work lies stand within C = some ((), C') ∧ EqOff [4100, 4200] C C' ∧ ∀ s, s < nS → hB within s = true → mgI C' 4100 0 s = cn s ∧ mgI C' 4200 0 s = wC wo hw s := by
  have hb : nS ≤ 64 ∧ nL ≤ 200 := sm_b1 h
  have hm := (sm_c1 h).1
  have H := lpR (fun n i (C1 : Mem) => fX9_work_l3 within lies stand n (nI i) C1) (fun r => EqOff [4100, 4200] C r.2 ∧ ∀ s, s < nS → hB within s = true → mgI r.2 4100 0 s = cn s ∧ mgI r.2 4200 0 s = wC wo hw s) nS (fun i C1 => EqOff [4100, 4200] C C1 ∧ ∀ s, s < i → hB within s = true → mgI C1 4100 0 s = cn s ∧ mgI C1 4200 0 s = wC wo hw s) (fun n C1 hI => ?_) (fun n s C1 hs hI k => ?_) FU 0 C (Nat.zero_le _) ⟨EqOff.refl, fun t ht => absurd ht (Nat.not_lt_zero t)⟩ (FU_lt (by omega))
  · obtain ⟨r, e, hr⟩ := H
    exact ⟨r.2, e, hr⟩
  · have g := hI.1.on (K := [502]) rfl
    simp only [fX9_work_l3, fX9_work_b3]
    rw [(g 502 (by decide)).1, hm, if_pos (nI_le (Nat.le_refl _) (by omega))]
    exact Rt_s hI
  · have g := hI.1.on (K := [502, 3200, 808, 809]) rfl
    simp only [fX9_work_l3, fX9_work_b3]
    rw [(g 502 (by decide)).1, hm, if_neg (nI_ge hs (by omega))]
    simp only [nm_u, ix_n (show s < 64 by omega) (show 64 < 2 ^ 31 by omega), nI_clamp (show s < 2 ^ 31 by omega), (g 3200 (by decide)).2.2, sm_r1 h s hs, nI_1]
    by_cases hq : hB within s = true
    · rw [if_neg (fun z => by rw [isIn_0 _ (by omega)] at z; rw [hq] at z; cases z)]
      obtain ⟨C2, x, w1, w2, w3, w4, w5⟩ := wg_q h hc hs C1 hI.1 (fun o ho hin => hI.2 o (bl_lt h s hs o hin) (hcl s hs hq o hin))
      rw [w1]
      simp only [bE_u, oc_SU]
      have g2 := w2.on (K := [808, 809]) rfl
      rw [(g2 808 (by decide)).1, (g2 809 (by decide)).1, (g 808 (by decide)).1, (g 809 (by decide)).1, sm_sW h s hs, sm_sP h s hs, w4 s, if_pos rfl]
      rw [les_eq h lies stand hs] at w3
      have fin : Rt (fX9_work_l3 within lies stand n (nI (s + 1)) (msI C2 4100 0 s (cn s))) (fun r => EqOff [4100, 4200] C r.2 ∧ ∀ s, s < nS → hB within s = true → mgI r.2 4100 0 s = cn s ∧ mgI r.2 4200 0 s = wC wo hw s) := by
        refine k _ ⟨EqOff.trans (EqOff.trans hI.1 w2) (EqOff.refl.I rfl), fun t ht hw => ?_⟩
        simp only [uI_I, uL_L, uR_R, uI_L, uI_R, uL_I, uL_R, uR_I, uR_L, Nat.reduceEqDiff, false_and, and_false, true_and, and_true, ↓reduceIte]
        rw [w4, w5]
        by_cases e : t = s
        · rw [if_pos e, if_pos e, e]; exact ⟨rfl, rfl⟩
        · rw [if_neg e, if_neg e, if_neg e]; exact hI.2 t (by omega) hw
      by_cases q1 : hB lies s = true
      · rw [if_neg (fun z => by rw [isIn_0 _ (by omega)] at z; rw [q1] at z; cases z)]
        rw [if_pos q1] at w3
        rw [← w3]
        exact fin
      · rw [if_pos ((isIn_0 _ (by omega)).mpr (by simpa using q1))]
        rw [if_neg q1] at w3
        by_cases q2 : hB stand s = true
        · rw [if_neg (fun z => by rw [isIn_0 _ (by omega)] at z; rw [q2] at z; cases z)]
          rw [if_pos q2] at w3
          rw [← w3]
          exact fin
        · rw [if_pos ((isIn_0 _ (by omega)).mpr (by simpa using q2))]
          rw [if_neg q2] at w3
          rw [← w3]
          exact fin
    · rw [if_pos ((isIn_0 _ (by omega)).mpr (by simpa using hq))]
      refine k _ ⟨hI.1, fun t ht hw => ?_⟩
      by_cases e : t = s
      · rw [e] at hw; exact absurd hw hq
      · exact hI.2 t (by omega) hw
