/-! what a stone says with some of its firsts taken to lie -/
def YT (C : Mem) (s : Nat) (T : Int64) : Int32 := match fX9_saysWith (some s) T C with | some r => r.1 | none => 0
theorem sw_q {C M : Mem} {nS nL : Nat} (h : Sim C M nS nL) {s : Nat} (hs : s < nS) (T : Int64) : ∃ C' M', fX9_saysWith (some s) T C = some (YT C s T, C') ∧ fX12_findCounts T 0 M = some ((), M') ∧ fX12_isYes (nI s) M' = some (YT C s T) ∧ EqOff [4100, 4200] C C' ∧ EqOff [6700, 6800, 6900] M M' := by
  obtain ⟨C', M', w1, w2, w3, w4, w5, w6, w7⟩ := w1_q h hs T 0
  have e : fX9_saysWith (some s) T C = some (ysB M (cM M') (oM M') s, C') := by
    unfold fX9_saysWith
    simp only [oc_SU]
    rw [sm_s0 h s hs, w1]
    simp only [bE_u]
    rw [ys_C h w5 hs w3 w6 w7]
    simp only [bd_u]
  have e2 : YT C s T = ysB M (cM M') (oM M') s := by
    unfold YT
    rw [e]
  rw [e2]
  exact ⟨C', M', e, w2, ys_M h w4 w5 hs, w3, w4⟩
/-- the same whatever scratch is written -/
theorem YT_C {C C1 M : Mem} {nS nL : Nat} (h : Sim C M nS nL) (h1 : Sim C1 M nS nL) {s : Nat} (hs : s < nS) (T : Int64) : YT C1 s T = YT C s T := by
  obtain ⟨C', M', w1, w2, w3, -⟩ := sw_q h hs T
  obtain ⟨C'', M'', v1, v2, v3, -⟩ := sw_q h1 hs T
  rw [w2] at v2
  have : M' = M'' := by
    have := Option.some.inj v2
    exact (Prod.ext_iff.mp this).2
  subst this
  rw [w3] at v3
  exact (Option.some.inj v3).symm
/-! the first eight of what holds -/
def gl (q : Nat → Bool) : Nat → List Nat
  | 0 => []
  | i + 1 => if (gl q i).length < 8 ∧ q i = true then gl q i ++ [i] else gl q i
theorem gl_8 (q : Nat → Bool) : ∀ i, (gl q i).length ≤ 8
  | 0 => Nat.zero_le _
  | i + 1 => by
    have ih := gl_8 q i
    unfold gl
    split
    · rename_i e; rw [List.length_append]; simp only [List.length_cons, List.length_nil]; omega
    · exact ih
theorem gl_lt (q : Nat → Bool) : ∀ i x, x ∈ gl q i → x < i
  | 0, x, h => absurd h (by simp [gl])
  | i + 1, x, h => by
    unfold gl at h
    split at h
    · rw [List.mem_append] at h
      rcases h with h | h
      · have := gl_lt q i x h; omega
      · simp at h; omega
    · have := gl_lt q i x h; omega
theorem gl_full {q : Nat → Bool} {i : Nat} (h : 8 ≤ (gl q i).length) : ∀ d, gl q (i + d) = gl q i
  | 0 => rfl
  | d + 1 => by
    have ih := gl_full h d
    show (if (gl q (i + d)).length < 8 ∧ q (i + d) = true then gl q (i + d) ++ [i + d] else gl q (i + d)) = _
    rw [ih, if_neg (fun z => by omega)]
def gAt (l : List Nat) (f : Nat → Int32) : Prop := ∀ j, (h : j < l.length) → f j = nI l[j]
theorem gAt_app {l : List Nat} {f g : Nat → Int32} {x : Nat} (h : gAt l f) (hg : ∀ j, g j = if j = l.length then nI x else f j) : gAt (l ++ [x]) g := fun j hj => by
  rw [hg]
  by_cases e : j = l.length
  · subst e; rw [if_pos rfl]; simp
  · rw [if_neg e]
    rw [List.length_append] at hj
    simp only [List.length_cons, List.length_nil] at hj
    rw [List.getElem_append_left (by omega)]
    exact h j (by omega)
def hq (C M : Mem) (s i : Nat) : Bool := decide (mgI M 5000 0 i = 1 ∧ mgI M 5400 0 i < 0) && hB (bl C s) i
theorem gf_C {C M : Mem} {nS nL : Nat} (h : Sim C M nS nL) {s : Nat} (hs : s < nS) : ∃ C', fX9_gatherFirsts (some s) C = some (nI (gl (hq C M s) s).length, C') ∧ EqOff [4300] C C' ∧ gAt (gl (hq C M s) s) (mgI C' 4300 0) := by
  have hb : nS ≤ 64 ∧ nL ≤ 200 := sm_b1 h
  have H := lpR (fun m k (z : Nat × Mem) => fX9_gatherFirsts_l4 (some s) m (nI z.1) (nI k) z.2) (fun r => r.1 = nI (gl (hq C M s) s).length ∧ EqOff [4300] C r.2 ∧ gAt (gl (hq C M s) s) (mgI r.2 4300 0)) s (fun k z => z.1 = (gl (hq C M s) k).length ∧ EqOff [4300] C z.2 ∧ gAt (gl (hq C M s) k) (mgI z.2 4300 0)) (fun m z hI => ?_) (fun m k z hk hI kx => ?_) FU 0 (0, C) (Nat.zero_le _) ⟨rfl, EqOff.refl, fun j hj => absurd hj (Nat.not_lt_zero j)⟩ (FU_lt (by omega))
  · obtain ⟨⟨r1, r2⟩, e, g1, g2, g3⟩ := H
    dsimp only at g1 g2 g3
    subst g1
    exact ⟨r2, e, g2, g3⟩
  · obtain ⟨z1, z2⟩ := z
    obtain ⟨g1, g2, g3⟩ := hI
    dsimp only at g1 g2 g3
    simp only [fX9_gatherFirsts_l4, fX9_gatherFirsts_b4, oc_SU]
    rw [(g2.on (K := [800]) rfl 800 (by decide)).1, sm_s0 h s hs, if_pos (nI_le (Nat.le_refl _) (by omega)), g1]
    exact Rt_s ⟨rfl, g2, g3⟩
  · obtain ⟨z1, z2⟩ := z
    obtain ⟨g1, g2, g3⟩ := hI
    dsimp only at g1 g2 g3
    have hl8 := gl_8 (hq C M s) k
    have g := g2.on (K := [800, 3200, 801, 807, 815]) rfl
    simp only [fX9_gatherFirsts_l4, fX9_gatherFirsts_b4, oc_SU, nm_u]
    rw [(g 800 (by decide)).1, sm_s0 h s hs, if_neg (nI_ge hk (by omega)), g1]
    by_cases e8 : 8 ≤ (gl (hq C M s) k).length
    · rw [if_pos (show (8 : Int32) ≤ nI (gl (hq C M s) k).length from nI_le (a := 8) e8 (by omega))]
      have hf := gl_full e8 (s - k)
      rw [show k + (s - k) = s by omega] at hf
      exact Rt_s ⟨by rw [hf], g2, by rw [hf]; exact g3⟩
    · rw [if_neg (show ¬ (8 : Int32) ≤ nI (gl (hq C M s) k).length from nI_ge (b := 8) (by omega) (by omega))]
      simp only [ix_n (show k < 64 by omega) (show 64 < 2 ^ 31 by omega), nI_clamp (show k < 2 ^ 31 by omega), (g 3200 (by decide)).2.2, sm_r1 h k (by omega), oc_SU, (g 801 (by decide)).1, (g 807 (by decide)).1, sm_sK h k (by omega), sm_sI h k (by omega), nI_1, (g 815 (by decide)).2.1, ix_n (show (gl (hq C M s) k).length < 8 by omega) (show 8 < 2 ^ 31 by omega), nI_clamp (show (gl (hq C M s) k).length < 2 ^ 31 by omega)]
      rw [isIn_q _ (show k < 64 by omega)]
      have hun : gl (hq C M s) (k + 1) = if (gl (hq C M s) k).length < 8 ∧ hq C M s k = true then gl (hq C M s) k ++ [k] else gl (hq C M s) k := rfl
      have kno : ¬ hq C M s k = true → Rt (fX9_gatherFirsts_l4 (some s) m (nI (gl (hq C M s) k).length) (nI (k + 1)) z2) _ := fun e => kx ((gl (hq C M s) k).length, z2) (by
        rw [hun, if_neg (fun z => e z.2)]
        exact ⟨rfl, g2, g3⟩)
      by_cases e1 : mgI M 5000 0 k = 1
      · rw [if_pos e1]
        by_cases e2 : 0 ≤ mgI M 5400 0 k
        · rw [if_pos e2]
          exact kno (by simp [hq, Int32.not_lt.mpr e2])
        · rw [if_neg e2]
          have e2' : mgI M 5400 0 k < 0 := Int32.not_le.mp e2
          by_cases e3 : hB (bl C s) k = true
          · rw [if_pos (show hB (mgL C 815 s 0) k = true from e3), if_neg one_ne]
            have hy : hq C M s k = true := by simp [hq, e1, e2', e3]
            refine kx ((gl (hq C M s) k).length + 1, msI z2 4300 0 (gl (hq C M s) k).length (nI k)) ?_
            rw [hun, if_pos ⟨by omega, hy⟩]
            refine ⟨by rw [List.length_append]; rfl, g2.I rfl, gAt_app g3 (fun j => ?_)⟩
            show mgI (msI z2 4300 0 (gl (hq C M s) k).length (nI k)) 4300 0 j = _
            simp only [uI_I, uL_L, uR_R, uI_L, uI_R, uL_I, uL_R, uR_I, uR_L, Nat.reduceEqDiff, false_and, and_false, true_and, and_true, ↓reduceIte]
          · rw [if_neg (show ¬ hB (mgL C 815 s 0) k = true from e3), if_pos rfl]
            exact kno (by simp [hq, e3])
      · rw [if_neg e1]
        exact kno (by simp [hq, e1])
