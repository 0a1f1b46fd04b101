/-! sets of the gathered stones -/
def oT (l : List Nat) (m : Nat) : Nat → Int64
  | 0 => 0
  | j + 1 => if m.testBit j = true then oT l m j ||| fX11_bit (nI (l.getD j 0)) else oT l m j
theorem oT_ext {l : List Nat} {m k : Nat} (hm : m < 2 ^ k) : ∀ d, oT l m (k + d) = oT l m k
  | 0 => rfl
  | d + 1 => by
    show (if m.testBit (k + d) = true then _ else oT l m (k + d)) = _
    rw [if_neg (by rw [Nat.testBit_lt_two_pow (Nat.lt_of_lt_of_le hm (Nat.pow_le_pow_right (by omega) (by omega)))]; decide), oT_ext hm d]
theorem gAt_D {l : List Nat} {f : Nat → Int32} (h : gAt l f) {j : Nat} (hj : j < l.length) : f j = nI (l.getD j 0) := by
  rw [h j hj, List.getD_eq_getElem?_getD, List.getElem?_eq_getElem hj]
  rfl
theorem bit_i {y n : Nat} (hy : y < 2 ^ 31) (hn : n < 20) : ((((nI y).toUInt32 >>> ((nI n).toUInt32 &&& Int32.toUInt32 31)).toInt32) &&& (1 : Int32)) = 0 ↔ ¬ y.testBit n = true := by
  have hd : y / 2 ^ n < 2 ^ 31 := Nat.lt_of_le_of_lt (Nat.div_le_self _ _) hy
  rw [pk_ushrN (by omega) (nI n) n (us_n n hn), show (1 : Int32) = nI 1 from rfl, nx_and, Nat.and_one_is_mod, show (0 : Int32) = nI 0 from rfl, nI_eq (by omega) (by omega), Nat.testBit_eq_decide_div_mod_eq, decide_eq_true_iff]
  omega
theorem bit_s : ∀ y, y < 256 → ∀ n, n < 10 → ((((nI y) >>> ((nI n) &&& 31)) &&& (1 : Int32)) = (1 : Int32) ↔ y.testBit n = true) := by decide +kernel
theorem as_q {C1 : Mem} {l : List Nat} (hl : l.length ≤ 8) (h : gAt l (mgI C1 4300 0)) {m : Nat} (hm : m < 256) : fX9_asStones (nI m) (nI l.length) C1 = some (oT l m l.length) := by
  refine lpT (fun n k (y : Int64) => fX9_asStones_l5 (nI l.length) (nI m) C1 n y (nI k)) l.length (fun k => oT l m k) (some (oT l m l.length)) (fun n => ?_) (fun n k hk => ?_) FU 0 (Nat.zero_le _) (FU_lt (by omega))
  · simp only [fX9_asStones_l5, fX9_asStones_b5]
    rw [if_pos (nI_le (Nat.le_refl _) (by omega))]
  · simp only [fX9_asStones_l5, fX9_asStones_b5, nm_u]
    rw [if_neg (nI_ge hk (by omega)), ix_n (show k < 8 by omega) (by omega), nI_clamp (by omega), gAt_D h hk, nI_1]
    show _ = fX9_asStones_l5 (nI l.length) (nI m) C1 n (if m.testBit k = true then oT l m k ||| fX11_bit (nI (l.getD k 0)) else oT l m k) (nI (k + 1))
    by_cases e : m.testBit k = true
    · rw [if_pos e, if_neg (fun z => (bit_i (by omega) (by omega)).mp z e)]
    · rw [if_neg e, if_pos ((bit_i (by omega) (by omega)).mpr e)]
theorem so_q {M1 : Mem} {l : List Nat} (hl : l.length ≤ 8) (h : gAt l (mgI M1 7500 0)) {m : Nat} (hm : m < 2 ^ l.length) : fX12_stonesOf (nI m) M1 = some (oT l m l.length) := by
  have hm8 : m < 256 := Nat.lt_of_lt_of_le hm (Nat.pow_le_pow_right (by omega) hl)
  have hx := oT_ext (l := l) hm (10 - l.length)
  rw [show l.length + (10 - l.length) = 10 by omega] at hx
  rw [← hx]
  refine lpT (fun n k (y : Int64) => fX12_stonesOf_l5 (nI m) M1 n y (nI k)) 10 (fun k => oT l m k) (some (oT l m 10)) (fun n => ?_) (fun n k hk => ?_) FU 0 (Nat.zero_le _) (FU_lt (by omega))
  · simp only [fX12_stonesOf_l5, fX12_stonesOf_b5]
    rw [if_pos (show (10 : Int32) ≤ nI 10 from Int32.le_refl _)]
  · simp only [fX12_stonesOf_l5, fX12_stonesOf_b5, nm_u]
    rw [if_neg (show ¬ (10 : Int32) ≤ nI k from nI_ge (b := 10) (a := k) hk (by omega)), ix_n hk (by omega), nI_clamp (by omega), nI_1]
    show _ = fX12_stonesOf_l5 (nI m) M1 n (if m.testBit k = true then oT l m k ||| fX11_bit (nI (l.getD k 0)) else oT l m k) (nI (k + 1))
    by_cases e : m.testBit k = true
    · have hkl : k < l.length := by
        apply Classical.byContradiction
        intro z
        rw [Nat.testBit_lt_two_pow (Nat.lt_of_lt_of_le hm (Nat.pow_le_pow_right (by omega) (Nat.le_of_not_lt z)))] at e
        exact absurd e (by decide)
      rw [if_pos e, if_pos ((bit_s m hm8 k hk).mpr e), gAt_D h hkl]
      rfl
    · rw [if_neg e, if_neg (fun z => e ((bit_s m hm8 k hk).mp z))]
/-- the stones gathered by the reference, and its two ends -/
theorem l41 (i4 x1 b : Int32) : ∀ m, fX12_findHung_l84_41 i4 x1 b m = fX12_findHung_l84 i4 x1 b m
  | 0 => rfl
  | m + 1 => by
    funext i j M
    show fX12_findHung_b84_41 i4 x1 b (fX12_findHung_l84_41 i4 x1 b m) i j M = fX12_findHung_b84 i4 x1 b (fX12_findHung_l84 i4 x1 b m) i j M
    rw [l41 i4 x1 b m]
    rfl
theorem gf_M {C M M2 : Mem} {nS nL : Nat} (h : Sim C M nS nL) (hS : StW C M M2 nS) {s : Nat} (hs : s < nS) : ∃ M3, fX12_findHung_l8 (nI s) FU (0 : Int32) (0 : Int32) M2 = (bE (fX12_findCounts (0 : Int64) (0 : Int64) M3) fun u8 M9 => bd (fX12_isYes (nI s) M9) fun b10 => fX12_findHung_l84 (nI (gl (hq C M s) s).length) (nI s) b10 FU (-1 : Int32) (1 : Int32) M9) ∧ EqOff [7500] M2 M3 ∧ gAt (gl (hq C M s) s) (mgI M3 7500 0) := by
  have hb : nS ≤ 64 ∧ nL ≤ 200 := sm_b1 h
  have key : ∀ (d k n : Nat) (M3 : Mem), k + d = s → d < n → EqOff [7500] M2 M3 → gAt (gl (hq C M s) k) (mgI M3 7500 0) → ∃ M4, fX12_findHung_l8 (nI s) n (nI (gl (hq C M s) k).length) (nI k) M3 = (bE (fX12_findCounts (0 : Int64) (0 : Int64) M4) fun u8 M9 => bd (fX12_isYes (nI s) M9) fun b10 => fX12_findHung_l84 (nI (gl (hq C M s) s).length) (nI s) b10 FU (-1 : Int32) (1 : Int32) M9) ∧ EqOff [7500] M2 M4 ∧ gAt (gl (hq C M s) s) (mgI M4 7500 0) := by
    intro d
    induction d with
    | zero =>
      intro k n M3 hk hn g2 g3
      obtain ⟨n, rfl⟩ : ∃ t, n = t + 1 := ⟨n - 1, by omega⟩
      have : k = s := by omega
      subst this
      simp only [fX12_findHung_l8, fX12_findHung_b8]
      rw [if_pos (nI_le (Nat.le_refl _) (by omega))]
      exact ⟨M3, rfl, g2, g3⟩
    | succ d ih =>
      intro k n M3 hk hn g2 g3
      obtain ⟨n, rfl⟩ : ∃ t, n = t + 1 := ⟨n - 1, by omega⟩
      have hl8 := gl_8 (hq C M s) k
      simp only [fX12_findHung_l8, fX12_findHung_b8, nm_u]
      rw [if_neg (nI_ge (show k < s by omega) (by omega))]
      by_cases e8 : 8 ≤ (gl (hq C M s) k).length
      · have hf := gl_full e8 (s - k)
        rw [show k + (s - k) = s by omega] at hf
        rw [if_pos (show (8 : Int32) ≤ nI (gl (hq C M s) k).length from nI_le (a := 8) e8 (by omega)), hf]
        refine ⟨M3, ?_, g2, g3⟩
        simp only [l41]
      · rw [if_neg (show ¬ (8 : Int32) ≤ nI (gl (hq C M s) k).length from nI_ge (b := 8) (by omega) (by omega))]
        have hf3 : FrM M2 M3 := FrM.of (g2.wide rfl)
        have hS3 : StW C M M3 nS := hS.on g2 hf3 rfl
        rw [isOn_q hS3 hs hb.1 (show k < 64 by omega)]
        simp only [bd_u, ix_n (show k < 64 by omega) (show 64 < 2 ^ 31 by omega), nI_clamp (show k < 2 ^ 31 by omega), nI_1, ix_n (show (gl (hq C M s) k).length < 10 by omega) (show 10 < 2 ^ 31 by omega), nI_clamp (show (gl (hq C M s) k).length < 2 ^ 31 by omega)]
        have hm50 : mgI M3 5000 = mgI M 5000 := by rw [(g2.on (K := [5000]) rfl 5000 (by decide)).1]; exact hS.1.i rfl
        have hm54 : mgI M3 5400 = mgI M 5400 := by rw [(g2.on (K := [5400]) rfl 5400 (by decide)).1]; exact hS.1.i rfl
        rw [hm50, hm54]
        have hun : gl (hq C M s) (k + 1) = if (gl (hq C M s) k).length < 8 ∧ hq C M s k = true then gl (hq C M s) k ++ [k] else gl (hq C M s) k := rfl
        have kno : ¬ hq C M s k = true → ∃ M4, fX12_findHung_l8 (nI s) n (nI (gl (hq C M s) k).length) (nI (k + 1)) M3 = (bE (fX12_findCounts (0 : Int64) (0 : Int64) M4) fun u8 M9 => bd (fX12_isYes (nI s) M9) fun b10 => fX12_findHung_l84 (nI (gl (hq C M s) s).length) (nI s) b10 FU (-1 : Int32) (1 : Int32) M9) ∧ EqOff [7500] M2 M4 ∧ gAt (gl (hq C M s) s) (mgI M4 7500 0) := fun e => by
          have i := ih (k + 1) n M3 (by omega) (by omega) g2 (by rw [hun, if_neg (fun z => e z.2)]; exact g3)
          rw [hun, if_neg (fun z => e z.2)] at i
          exact i
        by_cases e3 : hB (bl C s) k = true
        · rw [if_pos e3, if_neg one_ne]
          by_cases e1 : mgI M 5000 0 k = 1
          · rw [if_pos e1]
            by_cases e2 : mgI M 5400 0 k < 0
            · rw [if_pos e2]
              have hy : hq C M s k = true := by simp [hq, e1, e2, e3]
              have i := ih (k + 1) n (msI M3 7500 0 (gl (hq C M s) k).length (nI k)) (by omega) (by omega) (g2.I rfl) (by
                rw [hun, if_pos ⟨by omega, hy⟩]
                refine gAt_app g3 (fun j => ?_)
                simp only [uI_I, uL_L, uR_R, uI_L, uI_R, uL_I, uL_R, uR_I, uR_L, Nat.reduceEqDiff, false_and, and_false, true_and, and_true, ↓reduceIte])
              rw [hun, if_pos ⟨by omega, hy⟩, List.length_append] at i
              exact i
            · rw [if_neg e2]
              exact kno (by simp [hq, e2])
          · rw [if_neg e1]
            exact kno (by simp [hq, e1])
        · rw [if_neg e3, if_pos rfl]
          exact kno (by simp [hq, e3])
  exact key s 0 FU M2 (by omega) (FU_lt (by omega)) EqOff.refl (fun j hj => absurd hj (Nat.not_lt_zero j))
