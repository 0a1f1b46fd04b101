theorem dns_w (f : Nat) (lo : Nat → Int32) (s : Nat) (c : Nat → Bool) (v : Int32) : ∀ (N : Nat) (x : Mem), EqOff [f] x (dns lo s (fun l x => if c l = true then msI x f l 0 v else x) N x) ∧ ∀ l, ((l < N ∧ lo l = nI s ∧ c l = true) → mgI (dns lo s (fun l x => if c l = true then msI x f l 0 v else x) N x) f l 0 = v) ∧ (¬ (l < N ∧ lo l = nI s ∧ c l = true) → mgI (dns lo s (fun l x => if c l = true then msI x f l 0 v else x) N x) f l 0 = mgI x f l 0)
  | 0, x => ⟨EqOff.refl, fun l => ⟨fun z => absurd z.1 (Nat.not_lt_zero l), fun _ => rfl⟩⟩
  | N + 1, x => by
    by_cases h : lo N = nI s
    · rw [dns_y h]
      by_cases hc : c N = true
      · rw [if_pos hc]
        obtain ⟨i1, i2⟩ := dns_w f lo s c v N (msI x f N 0 v)
        refine ⟨EqOff.trans (EqOff.refl.I (by simp)) i1, fun l => ⟨fun z => ?_, fun z => ?_⟩⟩
        · by_cases e : l < N
          · exact (i2 l).1 ⟨e, z.2⟩
          · rw [(i2 l).2 (fun y => e y.1), mgI_I, if_pos ⟨rfl, by omega, rfl⟩]
        · rw [(i2 l).2 (fun y => z ⟨by omega, y.2⟩), mgI_I, if_neg (fun y => z ⟨by omega, by rw [y.2.1]; exact h, by rw [y.2.1]; exact hc⟩)]
      · rw [if_neg hc]
        obtain ⟨i1, i2⟩ := dns_w f lo s c v N x
        refine ⟨i1, fun l => ⟨fun z => (i2 l).1 ⟨?_, z.2⟩, fun z => (i2 l).2 (fun y => z ⟨by omega, y.2⟩)⟩⟩
        have : l ≠ N := fun e => hc (e ▸ z.2.2)
        omega
    · rw [dns_n h]
      obtain ⟨i1, i2⟩ := dns_w f lo s c v N x
      refine ⟨i1, fun l => ⟨fun z => (i2 l).1 ⟨?_, z.2⟩, fun z => (i2 l).2 (fun y => z ⟨by omega, y.2⟩)⟩⟩
      have : l ≠ N := fun e => h (e ▸ z.2.1)
      omega
theorem orL_dr {lo ln dr dr' : Nat → Int32} {B : Nat → Int64} {s : Nat} : ∀ {N : Nat}, (∀ l, l < N → lo l = nI s → dr l = dr' l) → orL lo ln dr B s N = orL lo ln dr' B s N
  | 0, _ => rfl
  | N + 1, h => by
    have ih := orL_dr (ln := ln) (B := B) (N := N) (fun l hl => h l (Nat.lt_succ_of_lt hl))
    by_cases e : lo N = nI s
    · have e3 := h N (Nat.lt_succ_self N) e
      by_cases e2 : dr N = 0
      · rw [orL_y ⟨e, e2⟩, orL_y ⟨e, e3 ▸ e2⟩, ih]
      · rw [orL_n (fun z => e2 z.2), orL_n (fun z => e2 (e3.trans z.2)), ih]
    · rw [orL_n (fun z => e z.1), orL_n (fun z => e z.1), ih]
/-- c: lines of s that lead to a TAKEN stone, as the component sees it -/
def cTk (C M : Mem) (l : Nat) : Bool := decide (mgI M 6300 0 l = 0 ∧ ¬ fX11_isIn (mgL C 505 0 0) (mgI M 6000 0 l) = 0)
theorem cTk_q {C M : Mem} {nS nL : Nat} (h : Sim C M nS nL) {s l : Nat} (hs : s < nS) (hl : l < nL) : (mgI M 5900 0 l = nI s ∧ cTk C M l = true ↔ lTk M s l) := by
  unfold cTk
  constructor
  · rintro ⟨e, z⟩
    have z := of_decide_eq_true z
    exact Classical.not_not.mp (fun y => z.2 ((lTk_c h hs hl e z.1).mpr y))
  · intro z
    exact ⟨z.1, decide_eq_true ⟨z.2.1, fun y => (lTk_c h hs hl z.1 z.2.1).mp y z⟩⟩
theorem ch_drop {C M C1 : Mem} {nS nL : Nat} (h : Sim C M nS nL) (f : FrC C C1) {s : Nat} (hs : s < nS) : ∃ C2, fX3_hear_l42 s FU (prv (mgI M 5900 0) s nL) (msI C1 810 s 0 (1 : Int32)) = (bE (fX5_reachFrom (nI s) C2) fun _ M12 => some ((), M12)) ∧ EqOff [810, 405] C1 C2 ∧ (∀ t, mgI C2 810 t 0 = if t = s then 1 else mgI C 810 t 0) ∧ ∀ l, l < nL → (lTk M s l → mgI C2 405 l 0 = 1) ∧ (¬ lTk M s l → mgI C2 405 l 0 = mgI M 6300 0 l) := by
  have hb : nS ≤ 64 ∧ nL ≤ 200 := sm_b1 h
  have e0 : EqOff [810] C1 (msI C1 810 s 0 (1 : Int32)) := EqOff.refl.I rfl
  have f0 : ∀ f', [810, 405].contains f' = false → scL.contains f' = false → ∀ x, EqOff [405] (msI C1 810 s 0 (1 : Int32)) x → EqF C x f' := fun f' h1 h2 x hx => by
    have a := (EqOff.trans (e0.wide (K := [810, 405]) rfl) (hx.wide rfl)) f' h1
    have b := f.1 f' h2
    exact ⟨a.1.trans b.1, a.2.1.trans b.2.1, a.2.2.trans b.2.2⟩
  have hl := lpL2 (fun n o (x : Mem) => fX3_hear_l42 s n o x) (mgI M 5900 0) s nL (fun N x => EqOff [405] (msI C1 810 s 0 (1 : Int32)) x ∧ ∀ l, l < N → mgI x 405 l 0 = mgI C 405 l 0) (fun l x => if cTk C M l = true then msI x 405 l 0 (1 : Int32) else x) (fun x => bE (fX5_reachFrom (nI s) x) fun _ M12 => some ((), M12))
    (fun n x hI => by
      simp only [fX3_hear_l42, fX3_hear_b42, oc_NU]
      rw [(f0 800 rfl rfl x hI.1).1, sm_s0 h s hs])
    (fun N x hI => ⟨hI.1, fun l hl => hI.2 l (by omega)⟩)
    (fun n l x hl e hI => by
      refine ⟨?_, ?_, fun l' hl' => ?_⟩
      · simp only [fX3_hear_l42, fX3_hear_b42, oc_SU, nm_u, uI_I, uL_L, uR_R, uI_L, uI_R, uL_I, uL_R, uR_I, uR_L, Nat.reduceEqDiff, false_and, and_false, true_and, and_true, ↓reduceIte]
        rw [hI.2 l (Nat.lt_succ_self l), (f0 505 rfl rfl x hI.1).2.1, (f0 401 rfl rfl x hI.1).1, (f0 402 rfl rfl x hI.1).2.2, sm_l5 h l hl, sm_l1 h l hl, sm_h2 h l s hl hs e]
        unfold cTk
        by_cases e2 : mgI M 6300 0 l = 0
        · rw [if_pos e2]
          by_cases e3 : fX11_isIn (mgL C 505 0 0) (mgI M 6000 0 l) = 0
          · rw [if_pos e3, if_neg (by simp [e3])]
          · rw [if_neg e3, if_pos (decide_eq_true ⟨e2, e3⟩)]
        · rw [if_neg e2, if_neg (by simp [e2])]
      · show EqOff [405] _ (if cTk C M l = true then msI x 405 l 0 (1 : Int32) else x)
        split
        · exact hI.1.I rfl
        · exact hI.1
      · show mgI (if cTk C M l = true then msI x 405 l 0 (1 : Int32) else x) 405 l' 0 = _
        split
        · simp only [uI_I, uL_L, uR_R, uI_L, uI_R, uL_I, uL_R, uR_I, uR_L, Nat.reduceEqDiff, false_and, and_false, true_and, and_true, ↓reduceIte, if_neg (show ¬ l' = l by omega)]
          exact hI.2 l' (by omega)
        · exact hI.2 l' (by omega)) nL FU (msI C1 810 s 0 (1 : Int32)) (Nat.le_refl _) (FU_lt (by omega)) ⟨EqOff.refl, fun l hl => by simp only [uI_I, uL_L, uR_R, uI_L, uI_R, uL_I, uL_R, uR_I, uR_L, Nat.reduceEqDiff, false_and, and_false, true_and, and_true, ↓reduceIte]; rw [f.i (f := 405) rfl]⟩
  obtain ⟨d1, d2⟩ := dns_w 405 (mgI M 5900 0) s (cTk C M) 1 nL (msI C1 810 s 0 (1 : Int32))
  refine ⟨_, hl, EqOff.trans (e0.wide rfl) (d1.wide rfl), fun t => ?_, fun l hl2 => ⟨fun z => ?_, fun z => ?_⟩⟩
  · rw [(d1.on (K := [810]) rfl 810 (by decide)).1]
    simp only [uI_I, uL_L, uR_R, uI_L, uI_R, uL_I, uL_R, uR_I, uR_L, Nat.reduceEqDiff, false_and, and_false, true_and, and_true, ↓reduceIte]
    rw [f.i (f := 810) rfl]
  · exact (d2 l).1 ⟨hl2, (cTk_q h hs hl2).mpr z⟩
  · rw [(d2 l).2 (fun y => z ((cTk_q h hs hl2).mp y.2))]
    simp only [uI_I, uL_L, uR_R, uI_L, uI_R, uL_I, uL_R, uR_I, uR_L, Nat.reduceEqDiff, false_and, and_false, true_and, and_true, ↓reduceIte]
    rw [f.i (f := 405) rfl, sm_l5 h l hl2]
theorem ch_hold {C M C1 : Mem} {nS nL : Nat} (h : Sim C M nS nL) (f : FrC C C1) {s : Nat} (hs : s < nS) : ∃ C2, fX3_hear_l42_22 s FU (prv (mgI M 5900 0) s nL) (msI C1 810 s 0 (2 : Int32)) = (bE (fX5_reachFrom (nI s) C2) fun _ M12 => some ((), M12)) ∧ EqOff [810, 403] C1 C2 ∧ (∀ t, mgI C2 810 t 0 = if t = s then 2 else mgI C 810 t 0) ∧ ∀ l, l < nL → (lTk M s l → mgI C2 403 l 0 = nI 99) ∧ (¬ lTk M s l → mgI C2 403 l 0 = mgI M 6100 0 l) := by
  have hb : nS ≤ 64 ∧ nL ≤ 200 := sm_b1 h
  have e0 : EqOff [810] C1 (msI C1 810 s 0 (2 : Int32)) := EqOff.refl.I rfl
  have f0 : ∀ f', [810, 403].contains f' = false → scL.contains f' = false → ∀ x, EqOff [403] (msI C1 810 s 0 (2 : Int32)) x → EqF C x f' := fun f' h1 h2 x hx => by
    have a := (EqOff.trans (e0.wide (K := [810, 403]) rfl) (hx.wide rfl)) f' h1
    have b := f.1 f' h2
    exact ⟨a.1.trans b.1, a.2.1.trans b.2.1, a.2.2.trans b.2.2⟩
  have hl := lpL2 (fun n o (x : Mem) => fX3_hear_l42_22 s n o x) (mgI M 5900 0) s nL (fun N x => EqOff [403] (msI C1 810 s 0 (2 : Int32)) x) (fun l x => if cTk C M l = true then msI x 403 l 0 (99 : Int32) else x) (fun x => bE (fX5_reachFrom (nI s) x) fun _ M12 => some ((), M12))
    (fun n x hI => by
      simp only [fX3_hear_l42_22, fX3_hear_b42_22, oc_NU]
      rw [(f0 800 rfl rfl x hI).1, sm_s0 h s hs])
    (fun N x hI => hI)
    (fun n l x hl e hI => by
      refine ⟨?_, ?_⟩
      · simp only [fX3_hear_l42_22, fX3_hear_b42_22, oc_SU, nm_u, uI_I, uL_L, uR_R, uI_L, uI_R, uL_I, uL_R, uR_I, uR_L, Nat.reduceEqDiff, false_and, and_false, true_and, and_true, ↓reduceIte]
        rw [(f0 405 rfl rfl x hI).1, (f0 505 rfl rfl x hI).2.1, (f0 401 rfl rfl x hI).1, (f0 402 rfl rfl x hI).2.2, sm_l5 h l hl, sm_l1 h l hl, sm_h2 h l s hl hs e]
        unfold cTk
        by_cases e2 : mgI M 6300 0 l = 0
        · rw [if_pos e2]
          by_cases e3 : fX11_isIn (mgL C 505 0 0) (mgI M 6000 0 l) = 0
          · rw [if_pos e3, if_neg (by simp [e3])]
          · rw [if_neg e3, if_pos (decide_eq_true ⟨e2, e3⟩)]
        · rw [if_neg e2, if_neg (by simp [e2])]
      · show EqOff [403] _ (if cTk C M l = true then msI x 403 l 0 (99 : Int32) else x)
        split
        · exact hI.I rfl
        · exact hI) nL FU (msI C1 810 s 0 (2 : Int32)) (Nat.le_refl _) (FU_lt (by omega)) EqOff.refl
  obtain ⟨d1, d2⟩ := dns_w 403 (mgI M 5900 0) s (cTk C M) 99 nL (msI C1 810 s 0 (2 : Int32))
  refine ⟨_, hl, EqOff.trans (e0.wide rfl) (d1.wide rfl), fun t => ?_, fun l hl2 => ⟨fun z => ?_, fun z => ?_⟩⟩
  · rw [(d1.on (K := [810]) rfl 810 (by decide)).1]
    simp only [uI_I, uL_L, uR_R, uI_L, uI_R, uL_I, uL_R, uR_I, uR_L, Nat.reduceEqDiff, false_and, and_false, true_and, and_true, ↓reduceIte]
    rw [f.i (f := 810) rfl]
  · exact (d2 l).1 ⟨hl2, (cTk_q h hs hl2).mpr z⟩
  · rw [(d2 l).2 (fun y => z ((cTk_q h hs hl2).mp y.2))]
    simp only [uI_I, uL_L, uR_R, uI_L, uI_R, uL_I, uL_R, uR_I, uR_L, Nat.reduceEqDiff, false_and, and_false, true_and, and_true, ↓reduceIte]
    rw [f.i (f := 403) rfl, sm_l3 h l hl2]
theorem draw_q {C M : Mem} {nS nL : Nat} (h : Sim C M nS nL) {M' : Mem} (f : FrM M M') (x u : Int32) : fX12_drawFor x u M' = fX3_draw x u C := by
  unfold fX12_drawFor fX3_draw
  rw [f.i (f := 1245) rfl, f.i (f := 1201) rfl, sm_d1 h, sm_n2 h]
set_option maxHeartbeats 4000000 in
theorem hear_q {C M : Mem} {nS nL : Nat} (h : Sim C M nS nL) (hW : StW C M M nS) {s : Nat} (hs : s < nS) (hk5 : mgI M 5000 0 s = 5) : ∃ C' M', fX3_hear (some s) C = some ((), C') ∧ fX12_hears (nI s) M = some ((), M') ∧ Sim C' M' nS nL ∧ mgI M' 1201 = mgI M 1201 := by
  have hb : nS ≤ 64 ∧ nL ≤ 200 := sm_b1 h
  obtain ⟨v, C1, M1, w1, w2, w3, w4⟩ := odds_q h FrC.refl hW hs (show 1 < 2 by omega)
  have fC1 := frO w3
  have fM1 := frQ w4
  have h1 : Sim C1 M1 nS nL := h.fr fC1 fM1
  unfold fX3_hear fX12_hears
  rw [show (1 : Int32) = nI 1 from rfl, w2]
  simp only [oc_SU]
  rw [w1]
  simp only [bE_u, nm_u]
  rw [sm_s0 h s hs, draw_q h FrM.refl, ix_n (show s < 64 by omega) (by omega), ix_n (show s < 64 by omega) (by omega), nI_clamp (by omega)]
  have p813 : ∀ y : Int32, mgR (msI C1 810 s 0 y) 813 s 0 = prv (mgI M 5900 0) s nL := fun y => by
    simp only [uI_I, uL_L, uR_R, uI_L, uI_R, uL_I, uL_R, uR_I, uR_L, Nat.reduceEqDiff, false_and, and_false, true_and, and_true, ↓reduceIte]
    rw [fC1.r (f := 813) rfl]
    exact sm_h1 h s hs
  rw [p813, p813]
  by_cases hd : v ≤ fX3_draw (nI s) (nI 1) C
  · rw [if_pos hd, if_pos hd]
    obtain ⟨C2, a1, a2, a3, a4⟩ := ch_drop h fC1 hs
    obtain ⟨M2, b1, b2, b3, b4⟩ := mh_drop h fM1 hs
    rw [show (nI 1) = (1 : Int32) from rfl, a1, b1]
    have kc := a2.on (K := [502, 3200, 813, 402, 401, 815]) rfl
    have km := b2.on (K := [5900, 6000]) rfl
    have r1' : f_r1 C2 M2 nS nL := fun t ht => by rw [(kc 3200 (by decide)).2.2]; exact sm_r1 h1 t ht
    have h1' : f_h1 C2 M2 nS nL := fun t ht => by rw [(kc 813 (by decide)).2.2, (km 5900 (by decide)).1]; exact sm_h1 h1 t ht
    have h2' : f_h2 C2 M2 nS nL := fun l t hl ht e => by
      rw [(km 5900 (by decide)).1] at e ⊢
      rw [(kc 402 (by decide)).2.2]
      exact sm_h2 h1 l t hl ht e
    have l1' : f_l1 C2 M2 nS nL := fun l hl => by rw [(kc 401 (by decide)).1, (km 6000 (by decide)).1]; exact sm_l1 h1 l hl
    have l5' : f_l5 C2 M2 nS nL := fun l hl => by
      by_cases z : lTk M s l
      · rw [(a4 l hl).1 z, (b4 l).1 ⟨hl, z⟩]
      · rw [(a4 l hl).2 z, (b4 l).2 (fun y => z y.2)]
    have vL' : f_vL C2 M2 nS nL := fun l hl => by rw [(km 5900 (by decide)).1, (km 6000 (by decide)).1]; exact sm_vL h1 l hl
    obtain ⟨C3, c1, c2, c3⟩ := rf_q (C := C2) (M := M2) hb (by rw [(kc 502 (by decide)).1]; exact (sm_c1 h1).1) r1' h1' h2' l1' l5' vL' (Nat.le_of_lt hs) (fun t ht => by
      rw [(kc 815 (by decide)).2.1, (km 5900 (by decide)).1, (km 6000 (by decide)).1]
      rw [sm_h5 h1 t (by omega)]
      refine orL_dr (fun l hl e => ?_)
      rw [fM1.i (f := 5900) rfl] at e
      rw [fM1.i (f := 6300) rfl]
      refine ((b4 l).2 (fun y => ?_)).symm
      have := (nI_eq (by omega) (by omega)).mp (e.symm.trans y.2.1)
      omega)
    rw [c1]
    simp only [bE_u]
    refine ⟨C3, M2, rfl, rfl, ?_, (b2.on (K := [1201]) rfl 1201 (by decide)).1.trans (fM1.i rfl)⟩
    have hC : EqOff [810, 405, 815] C1 C3 := EqOff.trans (a2.wide rfl) (c2.wide rfl)
    have hM := b2
    have hCt := hC.txC rfl
    have hMt := hM.txM rfl
    have k2 := c2.on (K := [810, 405]) rfl
    have gH : f_sH C3 M2 nS nL := fun t ht => by rw [(k2 810 (by decide)).1, a3, b3, sm_sH h t ht]
    have gvH : f_vH C3 M2 nS nL := fun t ht => by
      rw [b3]
      split
      · exact ⟨1, by omega, rfl⟩
      · exact sm_vH h t ht
    have gz1 : f_z1 C3 M2 nS nL := fun t ht => by
      rw [b3, if_neg (by omega), (hM.on (K := [5600]) rfl 5600 (by decide)).1, (hM.on (K := [5800]) rfl 5800 (by decide)).1]
      have := sm_z1 h1 t ht
      exact ⟨this.1, (sm_z1 h t ht).2.1, this.2.2⟩
    have gz2 : f_z2 C3 M2 nS nL := fun l hl => by
      rw [(b4 l).2 (fun y => by omega)]
      exact sm_z2 h l hl
    have gD : f_vD C3 M2 nS nL := fun l t hl ht e hz => by
      rw [(hM.on (K := [5900]) rfl 5900 (by decide)).1, fM1.i (f := 5900) rfl] at e
      rw [(hM.on (K := [5000]) rfl 5000 (by decide)).1, fM1.i (f := 5000) rfl]
      by_cases z : lTk M s l
      · have : t = s := (nI_eq (by omega) (by omega)).mp (e.symm.trans z.1)
        rw [this]; exact hk5
      · rw [(b4 l).2 (fun y => z y.2)] at hz
        exact sm_vD h l t hl ht e hz
    have g5 : f_l5 C3 M2 nS nL := fun l hl => by rw [(k2 405 (by decide)).1]; exact l5' l hl
    exact ⟨fr_b1 (sm_b1 h1),
    fr_c1 (hC.on rfl)  (sm_c1 h1),
    fr_c2  (hM.on rfl) (sm_c2 h1),
    fr_r1 (hC.on rfl)  (sm_r1 h1),
    fr_r2 (hC.on rfl)  (sm_r2 h1),
    fr_s0 (hC.on rfl)  (sm_s0 h1),
    fr_sK (hC.on rfl) (hM.on rfl) (sm_sK h1),
    fr_sM (hC.on rfl) (hM.on rfl) (sm_sM h1),
    fr_sA (hC.on rfl) (hM.on rfl) (sm_sA h1),
    fr_sB (hC.on rfl) (hM.on rfl) (sm_sB h1),
    fr_sI (hC.on rfl) (hM.on rfl) (sm_sI h1),
    fr_sW (hC.on rfl) (hM.on rfl) (sm_sW h1),
    fr_sP (hC.on rfl) (hM.on rfl) (sm_sP h1),
    gH,
    fr_sT (hC.on rfl) (hM.on rfl) (sm_sT h1),
    fr_vK  (hM.on rfl) (sm_vK h1),
    fr_vB  (hM.on rfl) (sm_vB h1),
    fr_n1  (hM.on rfl) (sm_n1 h1),
    fr_n2 (hC.on rfl) (hM.on rfl) (sm_n2 h1),
    fr_vM  (hM.on rfl) (sm_vM h1),
    fr_vT  (hM.on rfl) (sm_vT h1),
    fr_tB (hC.on rfl) (hM.on rfl) (sm_tB h1),
    fr_vJ  (hM.on rfl) (sm_vJ h1),
    gvH,
    fr_l0 (hC.on rfl) (hM.on rfl) (sm_l0 h1),
    fr_l1 (hC.on rfl) (hM.on rfl) (sm_l1 h1),
    fr_l3 (hC.on rfl) (hM.on rfl) (sm_l3 h1),
    fr_l4 (hC.on rfl) (hM.on rfl) (sm_l4 h1),
    g5,
    fr_vL  (hM.on rfl) (sm_vL h1),
    fr_vW  (hM.on rfl) (sm_vW h1),
    fr_vE  (hM.on rfl) (sm_vE h1),
    gD,
    fr_h1 (hC.on rfl) (hM.on rfl) (sm_h1 h1),
    fr_h2 (hC.on rfl) (hM.on rfl) (sm_h2 h1),
    fr_h3 (hC.on rfl) (hM.on rfl) (sm_h3 h1),
    fr_h4 (hC.on rfl) (hM.on rfl) (sm_h4 h1),
    c3,
    gz1,
    gz2,
    fr_z3  (hM.on rfl) (sm_z3 h1),
    fr_e1 (hC.on rfl) (hM.on rfl) (sm_e1 h1),
    fr_e2  (hM.on rfl) (sm_e2 h1),
    fr_e3 (hC.on rfl) (hM.on rfl) (sm_e3 h1),
    fr_o1  (hM.on rfl) (sm_o1 h1),
    fr_o2 (hC.on rfl) (hM.on rfl) (sm_o2 h1),
    fr_o3 (hC.on rfl) (hM.on rfl) (sm_o3 h1),
    fr_o4 (hC.on rfl) (hM.on rfl) (sm_o4 h1),
    fr_o5 (hC.on rfl) (hM.on rfl) (sm_o5 h1),
    fr_o6  (hM.on rfl) (sm_o6 h1),
    fr_g1 (hC.on rfl) (hM.on rfl) (sm_g1 h1),
    fr_d1 (hC.on rfl) (hM.on rfl) (sm_d1 h1),
    fr_t1 (hC.on rfl) (hM.on rfl) (sm_t1 h1),
    fr_x1 hCt hMt (sm_x1 h1),
    fr_a1 (hC.on rfl) (hM.on rfl) (sm_a1 h1),
    fr_a2 (hC.on rfl) (hM.on rfl) (sm_a2 h1),
    fr_p1 (hC.on rfl) (hM.on rfl) (sm_p1 h1),
    fr_p2 (hC.on rfl) (hM.on rfl) (sm_p2 h1)⟩
  · rw [if_neg hd, if_neg hd]
    obtain ⟨C2, a1, a2, a3, a4⟩ := ch_hold h fC1 hs
    obtain ⟨M2, b1, b2, b3, b4⟩ := mh_hold h fM1 hs
    rw [a1, b1]
    have kc := a2.on (K := [502, 3200, 813, 402, 401, 405, 815]) rfl
    have km := b2.on (K := [5900, 6000, 6300]) rfl
    have r1' : f_r1 C2 M2 nS nL := fun t ht => by rw [(kc 3200 (by decide)).2.2]; exact sm_r1 h1 t ht
    have h1' : f_h1 C2 M2 nS nL := fun t ht => by rw [(kc 813 (by decide)).2.2, (km 5900 (by decide)).1]; exact sm_h1 h1 t ht
    have h2' : f_h2 C2 M2 nS nL := fun l t hl ht e => by
      rw [(km 5900 (by decide)).1] at e ⊢
      rw [(kc 402 (by decide)).2.2]
      exact sm_h2 h1 l t hl ht e
    have l1' : f_l1 C2 M2 nS nL := fun l hl => by rw [(kc 401 (by decide)).1, (km 6000 (by decide)).1]; exact sm_l1 h1 l hl
    have l5' : f_l5 C2 M2 nS nL := fun l hl => by rw [(kc 405 (by decide)).1, (km 6300 (by decide)).1]; exact sm_l5 h1 l hl
    have vL' : f_vL C2 M2 nS nL := fun l hl => by rw [(km 5900 (by decide)).1, (km 6000 (by decide)).1]; exact sm_vL h1 l hl
    obtain ⟨C3, c1, c2, c3⟩ := rf_q (C := C2) (M := M2) hb (by rw [(kc 502 (by decide)).1]; exact (sm_c1 h1).1) r1' h1' h2' l1' l5' vL' (Nat.le_of_lt hs) (fun t ht => by
      rw [(kc 815 (by decide)).2.1, (km 5900 (by decide)).1, (km 6000 (by decide)).1, (km 6300 (by decide)).1]
      exact sm_h5 h1 t (by omega))
    rw [c1]
    simp only [bE_u]
    refine ⟨C3, M2, rfl, rfl, ?_, (b2.on (K := [1201]) rfl 1201 (by decide)).1.trans (fM1.i rfl)⟩
    have hC : EqOff [810, 403, 815] C1 C3 := EqOff.trans (a2.wide rfl) (c2.wide rfl)
    have hM := b2
    have hCt := hC.txC rfl
    have hMt := hM.txM rfl
    have k2 := c2.on (K := [810, 403]) rfl
    have gH : f_sH C3 M2 nS nL := fun t ht => by rw [(k2 810 (by decide)).1, a3, b3, sm_sH h t ht]
    have gvH : f_vH C3 M2 nS nL := fun t ht => by
      rw [b3]
      split
      · exact ⟨2, by omega, rfl⟩
      · exact sm_vH h t ht
    have gz1 : f_z1 C3 M2 nS nL := fun t ht => by
      rw [b3, if_neg (by omega), (hM.on (K := [5600]) rfl 5600 (by decide)).1, (hM.on (K := [5800]) rfl 5800 (by decide)).1]
      have := sm_z1 h1 t ht
      exact ⟨this.1, (sm_z1 h t ht).2.1, this.2.2⟩
    have g3 : f_l3 C3 M2 nS nL := fun l hl => by
      rw [(k2 403 (by decide)).1]
      by_cases z : lTk M s l
      · rw [(a4 l hl).1 z, (b4 l).1 ⟨hl, z⟩]
      · rw [(a4 l hl).2 z, (b4 l).2 (fun y => z y.2)]
    have gW : f_vW C3 M2 nS nL := fun l hl => by
      by_cases z : lTk M s l
      · rw [(b4 l).1 ⟨hl, z⟩]; exact ⟨99, by omega, by omega, rfl⟩
      · rw [(b4 l).2 (fun y => z y.2)]; exact sm_vW h l hl
    exact ⟨fr_b1 (sm_b1 h1),
    fr_c1 (hC.on rfl)  (sm_c1 h1),
    fr_c2  (hM.on rfl) (sm_c2 h1),
    fr_r1 (hC.on rfl)  (sm_r1 h1),
    fr_r2 (hC.on rfl)  (sm_r2 h1),
    fr_s0 (hC.on rfl)  (sm_s0 h1),
    fr_sK (hC.on rfl) (hM.on rfl) (sm_sK h1),
    fr_sM (hC.on rfl) (hM.on rfl) (sm_sM h1),
    fr_sA (hC.on rfl) (hM.on rfl) (sm_sA h1),
    fr_sB (hC.on rfl) (hM.on rfl) (sm_sB h1),
    fr_sI (hC.on rfl) (hM.on rfl) (sm_sI h1),
    fr_sW (hC.on rfl) (hM.on rfl) (sm_sW h1),
    fr_sP (hC.on rfl) (hM.on rfl) (sm_sP h1),
    gH,
    fr_sT (hC.on rfl) (hM.on rfl) (sm_sT h1),
    fr_vK  (hM.on rfl) (sm_vK h1),
    fr_vB  (hM.on rfl) (sm_vB h1),
    fr_n1  (hM.on rfl) (sm_n1 h1),
    fr_n2 (hC.on rfl) (hM.on rfl) (sm_n2 h1),
    fr_vM  (hM.on rfl) (sm_vM h1),
    fr_vT  (hM.on rfl) (sm_vT h1),
    fr_tB (hC.on rfl) (hM.on rfl) (sm_tB h1),
    fr_vJ  (hM.on rfl) (sm_vJ h1),
    gvH,
    fr_l0 (hC.on rfl) (hM.on rfl) (sm_l0 h1),
    fr_l1 (hC.on rfl) (hM.on rfl) (sm_l1 h1),
    g3,
    fr_l4 (hC.on rfl) (hM.on rfl) (sm_l4 h1),
    fr_l5 (hC.on rfl) (hM.on rfl) (sm_l5 h1),
    fr_vL  (hM.on rfl) (sm_vL h1),
    gW,
    fr_vE  (hM.on rfl) (sm_vE h1),
    fr_vD  (hM.on rfl) (sm_vD h1),
    fr_h1 (hC.on rfl) (hM.on rfl) (sm_h1 h1),
    fr_h2 (hC.on rfl) (hM.on rfl) (sm_h2 h1),
    fr_h3 (hC.on rfl) (hM.on rfl) (sm_h3 h1),
    fr_h4 (hC.on rfl) (hM.on rfl) (sm_h4 h1),
    c3,
    gz1,
    fr_z2  (hM.on rfl) (sm_z2 h1),
    fr_z3  (hM.on rfl) (sm_z3 h1),
    fr_e1 (hC.on rfl) (hM.on rfl) (sm_e1 h1),
    fr_e2  (hM.on rfl) (sm_e2 h1),
    fr_e3 (hC.on rfl) (hM.on rfl) (sm_e3 h1),
    fr_o1  (hM.on rfl) (sm_o1 h1),
    fr_o2 (hC.on rfl) (hM.on rfl) (sm_o2 h1),
    fr_o3 (hC.on rfl) (hM.on rfl) (sm_o3 h1),
    fr_o4 (hC.on rfl) (hM.on rfl) (sm_o4 h1),
    fr_o5 (hC.on rfl) (hM.on rfl) (sm_o5 h1),
    fr_o6  (hM.on rfl) (sm_o6 h1),
    fr_g1 (hC.on rfl) (hM.on rfl) (sm_g1 h1),
    fr_d1 (hC.on rfl) (hM.on rfl) (sm_d1 h1),
    fr_t1 (hC.on rfl) (hM.on rfl) (sm_t1 h1),
    fr_x1 hCt hMt (sm_x1 h1),
    fr_a1 (hC.on rfl) (hM.on rfl) (sm_a1 h1),
    fr_a2 (hC.on rfl) (hM.on rfl) (sm_a2 h1),
    fr_p1 (hC.on rfl) (hM.on rfl) (sm_p1 h1),
    fr_p2 (hC.on rfl) (hM.on rfl) (sm_p2 h1)⟩
