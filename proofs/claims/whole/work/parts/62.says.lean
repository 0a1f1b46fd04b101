theorem bl_tr {C M : Mem} {nS nL : Nat} (h : Sim C M nS nL) : ∀ (s : Nat), s < nS → ∀ t o, hB (bl C s) t = true → hB (bl C t) o = true → hB (bl C s) o = true := by
  have hb : nS ≤ 64 ∧ nL ≤ 200 := sm_b1 h
  intro s
  induction s using Nat.strongRecOn with
  | _ s ih =>
    intro hs t o ht ho
    obtain ⟨l, hl, h1, h2, b, hb', h3, h4⟩ := (bl_h h hs t).mp ht
    obtain ⟨b', hbs, h5⟩ := ln_n h hl hs h1
    have e : b = b' := (nI_eq (by omega) (by omega)).mp (h3.symm.trans h5)
    subst e
    refine (bl_h h hs o).mpr ⟨l, hl, h1, h2, b, hb', h3, Or.inr ?_⟩
    rcases h4 with h4 | h4
    · rw [← h4]; exact ho
    · exact ih b hbs (by omega) t o h4 ho
theorem cl_one {C M : Mem} {nS nL : Nat} (h : Sim C M nS nL) {s : Nat} (hs : s < nS) : ∀ t, t < nS → hB (mgL C 815 s 0 ||| fX11_bit (nI s)) t = true → ∀ o, hB (bl C t) o = true → hB (mgL C 815 s 0 ||| fX11_bit (nI s)) o = true := by
  have hb : nS ≤ 64 ∧ nL ≤ 200 := sm_b1 h
  intro t ht h1 o h2
  rw [hB_or, hB_bit (by omega)] at h1 ⊢
  have h3 : hB (bl C s) o = true := by
    rcases Bool.or_eq_true _ _ ▸ h1 with h4 | h4
    · exact bl_tr h s hs t o h4 h2
    · rw [← of_decide_eq_true h4]; exact h2
  have h5 : hB (mgL C 815 s 0) o = true := h3
  rw [h5, Bool.true_or]
theorem cl_all {C M : Mem} {nS nL : Nat} (h : Sim C M nS nL) : ∀ t, t < nS → hB (-1) t = true → ∀ o, hB (bl C t) o = true → hB (-1) o = true := by
  have hb : nS ≤ 64 ∧ nL ≤ 200 := sm_b1 h
  intro t ht _ o h2
  have := bl_lt h t ht o h2
  exact hB_m1 o (by omega)
def cM (M : Mem) : Nat → Int32 := mgI M 6700 0
def oM (M : Mem) : Nat → Int32 := mgI M 6800 0
def hM (M : Mem) : Nat → Int32 := mgI M 6900 0
/-- both sides work out the stones on which s stands, and s -/
theorem w1_q {C M : Mem} {nS nL : Nat} (h : Sim C M nS nL) {s : Nat} (hs : s < nS) (lies stand : Int64) : ∃ C' M', fX9_work lies stand (mgL C 815 s 0 ||| fX11_bit (nI s)) C = some ((), C') ∧ fX12_findCounts lies stand M = some ((), M') ∧ EqOff [4100, 4200] C C' ∧ EqOff [6700, 6800, 6900] M M' ∧ CnP M nS nL lies stand (cM M') (oM M') (hM M') ∧ mgI C' 4100 0 s = cM M' s ∧ mgI C' 4200 0 s = wC (oM M') (hM M') s := by
  have hb : nS ≤ 64 ∧ nL ≤ 200 := sm_b1 h
  obtain ⟨M', m1, m2, m3⟩ := fc_q h lies stand
  obtain ⟨C', c1, c2, c3⟩ := wk_q h m3 (cl_one h hs)
  have := c3 s hs (by rw [hB_or, hB_bit (by omega), decide_eq_true rfl, Bool.or_true])
  exact ⟨C', M', c1, m1, c2, m2, m3, this.1, this.2⟩
/-- and all stones -/
theorem wa_q {C M : Mem} {nS nL : Nat} (h : Sim C M nS nL) (lies stand : Int64) : ∃ C' M', fX9_work lies stand (-1 : Int64) C = some ((), C') ∧ fX12_findCounts lies stand M = some ((), M') ∧ EqOff [4100, 4200] C C' ∧ EqOff [6700, 6800, 6900] M M' ∧ CnP M nS nL lies stand (cM M') (oM M') (hM M') ∧ ∀ s, s < nS → mgI C' 4100 0 s = cM M' s ∧ mgI C' 4200 0 s = wC (oM M') (hM M') s := by
  have hb : nS ≤ 64 ∧ nL ≤ 200 := sm_b1 h
  obtain ⟨M', m1, m2, m3⟩ := fc_q h lies stand
  obtain ⟨C', c1, c2, c3⟩ := wk_q h m3 (cl_all h)
  exact ⟨C', M', c1, m1, c2, m2, m3, fun s hs => c3 s hs (hB_m1 s (by omega))⟩
theorem frW {C C' : Mem} (h : EqOff [4100, 4200] C C') : FrC C C' := FrC.of (h.wide (by decide))
theorem frF {C C' : Mem} (h : EqOff [6700, 6800, 6900] C C') : FrM C C' := FrM.of (h.wide (by decide))
theorem qs_worth {C M : Mem} {nS nL : Nat} (h : Sim C M nS nL) (a1 : Int32) : QA nS nL (fX11_worth a1 C) (fX12_worth a1 M) := by
  unfold fX11_worth fX12_worth
  rcases st_c h a1 with ⟨s, hs, hb, rfl, e1, e2⟩ | ⟨e1, e2⟩
  · rw [e1, e2]
    simp only [nm_u, bd_u, oc_SU]
    rw [if_neg one_ne, sm_s0 h s hs]
    obtain ⟨C', M', w1, w2, w3, w4, -, w5, w6⟩ := w1_q h hs 0 0
    rw [w1, w2]
    simp only [bE_u]
    rw [(w3.on (K := [800]) rfl 800 (by decide)).1, sm_s0 h s hs]
    simp only [ix_n (show s < 64 by omega) (show 64 < 2 ^ 31 by omega), nI_clamp (show s < 2 ^ 31 by omega)]
    rw [w6]
    unfold wC hM oM
    by_cases h0 : mgI M' 6900 0 s = 0
    · rw [if_pos h0, if_pos h0]
      exact QA_fr h rfl rfl (frW w3) (frF w4)
    · rw [if_neg h0, if_neg h0]
      exact QA_fr h rfl rfl (frW w3) (frF w4)
  · rw [e1, e2]
    exact QA_same h rfl rfl
/-- whether it says yes, of its counts and worth -/
def ysB (M : Mem) (cn wo : Nat → Int32) (s : Nat) : Int32 := if cn s ≤ 0 then 0 else if wo s < (1000 : Int32) * mgI M 5200 0 s then 0 else 1
theorem ys_C {C M : Mem} {nS nL : Nat} (h : Sim C M nS nL) {lies stand : Int64} {cn wo hw : Nat → Int32} (hc : CnP M nS nL lies stand cn wo hw) {s : Nat} (hs : s < nS) {C' : Mem} (hE : EqOff [4100, 4200] C C') (e1 : mgI C' 4100 0 s = cn s) (e2 : mgI C' 4200 0 s = wC wo hw s) : fX9_isYes (some s) C' = some (ysB M cn wo s) := by
  have hb : nS ≤ 64 ∧ nL ≤ 200 := sm_b1 h
  have g := hE.on (K := [800, 803]) rfl
  unfold fX9_isYes ysB
  simp only [oc_SU]
  rw [(g 800 (by decide)).1, (g 803 (by decide)).1, sm_s0 h s hs, sm_sA h s hs]
  simp only [ix_n (show s < 64 by omega) (show 64 < 2 ^ 31 by omega), nI_clamp (show s < 2 ^ 31 by omega), e1, e2]
  by_cases h0 : cn s ≤ 0
  · rw [if_pos h0, if_pos h0]
  · rw [if_neg h0, if_neg h0]
    obtain ⟨c, c1, c2, c3⟩ := CnP_b h hc s hs
    have hwz : wC wo hw s = wo s := by
      unfold wC
      exact if_neg (fun z => h0 (by rw [c2, c3 z]; decide))
    rw [hwz]
    by_cases h1 : wo s < (1000 : Int32) * mgI M 5200 0 s
    · rw [if_pos h1, if_pos h1]
    · rw [if_neg h1, if_neg h1]
theorem ys_M {C M : Mem} {nS nL : Nat} (h : Sim C M nS nL) {lies stand : Int64} {M' : Mem} (hE : EqOff [6700, 6800, 6900] M M') (hc : CnP M nS nL lies stand (cM M') (oM M') (hM M')) {s : Nat} (hs : s < nS) : fX12_isYes (nI s) M' = some (ysB M (cM M') (oM M') s) := by
  have hb : nS ≤ 64 ∧ nL ≤ 200 := sm_b1 h
  have g := hE.on (K := [5200]) rfl
  unfold fX12_isYes ysB
  simp only [ix_n (show s < 64 by omega) (show 64 < 2 ^ 31 by omega), nI_clamp (show s < 2 ^ 31 by omega), (g 5200 (by decide)).1]
  unfold cM oM
  by_cases h0 : mgI M' 6700 0 s ≤ 0
  · rw [if_pos h0, if_pos h0]
  · rw [if_neg h0, if_neg h0]
    obtain ⟨c, c1, c2, c3⟩ := CnP_b h hc s hs
    rw [if_neg (show ¬ mgI M' 6900 0 s = 0 from fun z => h0 (by rw [show mgI M' 6700 0 s = nI c from c2, c3 z]; decide))]
    by_cases h1 : mgI M' 6800 0 s < (1000 : Int32) * mgI M 5200 0 s
    · rw [if_pos h1, if_pos h1]
    · rw [if_neg h1, if_neg h1]
theorem ys_01 (M : Mem) (cn wo : Nat → Int32) (s : Nat) : ysB M cn wo s = 0 ∨ ysB M cn wo s = 1 := by
  unfold ysB
  split
  · exact Or.inl rfl
  · split
    · exact Or.inl rfl
    · exact Or.inr rfl
theorem qs_says {C M : Mem} {nS nL : Nat} (h : Sim C M nS nL) (a1 : Int32) : QA nS nL (fX11_says a1 C) (fX12_says a1 M) := by
  unfold fX11_says fX12_says
  rcases st_c h a1 with ⟨s, hs, hb, rfl, e1, e2⟩ | ⟨e1, e2⟩
  · rw [e1, e2]
    simp only [nm_u, bd_u, oc_SU, ix_n (show s < 64 by omega) (show 64 < 2 ^ 31 by omega), nI_clamp (show s < 2 ^ 31 by omega)]
    rw [if_neg one_ne, sm_sK h s hs]
    by_cases hk : mgI M 5000 0 s = 3
    · rw [if_pos hk, if_pos hk]
      unfold fX9_saysWith
      simp only [oc_SU]
      rw [sm_s0 h s hs]
      obtain ⟨C', M', w1, w2, w3, w4, w5, w6, w7⟩ := w1_q h hs 0 0
      rw [w1, w2]
      simp only [bE_u]
      rw [ys_C h w5 hs w3 w6 w7, ys_M h w4 w5 hs]
      simp only [bE_u, bd_u]
      by_cases h0 : ysB M (cM M') (oM M') s = 0
      · rw [if_pos h0, if_pos h0]
        exact QA_fr h rfl rfl (frW w3) (frF w4)
      · rw [if_neg h0, if_neg h0]
        exact QA_fr h rfl rfl (frW w3) (frF w4)
    · rw [if_neg hk, if_neg hk]
      exact QA_same h rfl rfl
  · rw [e1, e2]
    exact QA_same h rfl rfl
theorem qs_with {C M : Mem} {nS nL : Nat} (h : Sim C M nS nL) (a1 a2 a3 : Int32) : QA nS nL (fX11_with a1 a2 a3 C) (fX12_with a1 a2 a3 M) := by
  unfold fX11_with fX12_with
  have key : ∀ (o : Nat), o < nS → ∀ lies stand : Int64, QA nS nL (bE (fX9_work lies stand (mgL C 815 o 0 ||| fX11_bit (nI o)) C) fun _ M11 => if a3 - a3 / (2 : Int32) * (2 : Int32) = 0 then ix (mgI M11 800 o 0) 64 <| some (mgI M11 4100 0 (mgI M11 800 o 0).toNatClampNeg, M11) else ix (mgI M11 800 o 0) 64 <| some (mgI M11 4200 0 (mgI M11 800 o 0).toNatClampNeg, M11))
      (bE (fX12_findCounts lies stand M) fun _ M10 => if a3 - a3 / (2 : Int32) * (2 : Int32) = 0 then ix (nI o) 64 <| some (mgI M10 6700 0 (nI o).toNatClampNeg, M10) else ix (nI o) 64 <| if mgI M10 6900 0 (nI o).toNatClampNeg = 0 then some ((-2000000000 : Int32), M10) else ix (nI o) 64 <| some (mgI M10 6800 0 (nI o).toNatClampNeg, M10)) := fun o ho lies stand => by
    have hb : nS ≤ 64 ∧ nL ≤ 200 := sm_b1 h
    obtain ⟨C', M', w1, w2, w3, w4, -, w5, w6⟩ := w1_q h ho lies stand
    rw [w1, w2]
    simp only [bE_u]
    rw [(w3.on (K := [800]) rfl 800 (by decide)).1, sm_s0 h o ho]
    simp only [ix_n (show o < 64 by omega) (show 64 < 2 ^ 31 by omega), nI_clamp (show o < 2 ^ 31 by omega)]
    rw [w5, w6]
    by_cases h3 : a3 - a3 / (2 : Int32) * (2 : Int32) = 0
    · rw [if_pos h3, if_pos h3]
      exact QA_fr h rfl rfl (frW w3) (frF w4)
    · rw [if_neg h3, if_neg h3]
      unfold wC hM oM
      by_cases h0 : mgI M' 6900 0 o = 0
      · rw [if_pos h0, if_pos h0]
        exact QA_fr h rfl rfl (frW w3) (frF w4)
      · rw [if_neg h0, if_neg h0]
        exact QA_fr h rfl rfl (frW w3) (frF w4)
  rcases st_c h a1 with ⟨s, hs, hb, rfl, e1, e2⟩ | ⟨e1, e2⟩
  · rw [e1, e2]
    rcases st_c h a2 with ⟨o, ho, -, rfl, e3, e4⟩ | ⟨e3, e4⟩
    · rw [e3, e4]
      simp only [nm_u, bd_u, oc_SU]
      rw [if_neg one_ne, if_neg one_ne]
      rcases rg_c a3 0 3 (by decide) (by decide) with ⟨h1, h2⟩ | ⟨h1, h2⟩ | ⟨w, -, hw, rfl⟩
      · rw [if_pos (show a3 < 0 from h1), in_lo (show a3 < 0 from h1)]
        exact QA_same h rfl rfl
      · rw [if_neg (show ¬ a3 ≤ 3 from h2), ite_self, in_hi (show (3 : Int32) < a3 from h1)]
        exact QA_same h rfl rfl
      · rw [show fX12_in (nI w) 0 3 = 1 from in_ok (lo := 0) (hi := 3) (Nat.zero_le _) hw (by decide), if_neg one_ne, if_neg (nI_pos (by omega)), if_pos (show nI w ≤ 3 from nI_le hw (by decide)), sft_q]
        by_cases h2 : (2 : Int32) ≤ nI w
        · simp only [if_pos h2]
          exact key o ho 0 (fX11_bit (nI s))
        · simp only [if_neg h2]
          exact key o ho (fX11_bit (nI s)) 0
    · rw [e3, e4]
      simp only [nm_u, bd_u, oc_SU, oc_NU, if_neg one_ne, ↓reduceIte]
      exact QA_same h rfl rfl
  · rw [e1, e2]
    obtain ⟨o, eo⟩ : ∃ o, fX5_stoneAt a2 C = some o := by
      rcases st_c h a2 with ⟨o, ho, -, rfl, e3, e4⟩ | ⟨e3, e4⟩ <;> exact ⟨_, e3⟩
    rw [eo]
    simp only [nm_u, bd_u, oc_NU, ↓reduceIte]
    exact QA_same h rfl rfl
