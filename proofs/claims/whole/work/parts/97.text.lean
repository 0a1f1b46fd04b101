/-! the whole reading, both sides -/
def RO (t : Nat) (B : Nat → Nat) (C0 M0 : Mem) (u : Nat) (x y : Option (Int32 × Mem)) : Prop :=
  (∃ q C' M', q ≤ t ∧ x = some (nI q, C') ∧ FrC C0 C' ∧ FrM M0 M' ∧ y = some ((-100 : Int32) - nI q, msI M' 1233 0 0 (0 : Int32))) ∨
  (∃ p L C' M', x = some (-1, C') ∧ L ≠ [] ∧ LSt t B C0 M0 1 p L C' M' ∧ y = fX12_text_l119_111 (nI u) FU (0 : Int32) (msI M' 1233 0 0 (0 : Int32)))
theorem rd_s (n : Nat) (i : Int32) (M : Mem) : fX7_read_l20 (n + 1) i M = fX7_read_b20 (fX7_read_l20 n) i M := rfl
theorem tx_s (x1 : Int32) (n : Nat) (M : Mem) : fX12_text_l42 x1 (n + 1) M = fX12_text_b42 x1 (fX12_text_l42 x1 n) M := rfl
theorem read_l {t : Nat} {B : Nat → Nat} {C0 M0 : Mem} {u : Nat} : ∀ (m p : Nat) (L : List (List Tok × List Tok)) (C M : Mem) (k n nM : Nat), t - p ≤ m → m < n → m < nM → k ≤ p → LSt t B C0 M0 0 p L C M → RO t B C0 M0 u (fX7_read_l20 n (nI k) C) (bE (fX12_readLine M) fun _ M9 => fX12_text_l42 (nI u) nM M9) := by
  intro m
  induction m using Nat.strongRecOn with
  | ind m ih =>
    intro p L C M k n nM hm hn hnM hk h
    obtain ⟨n, rfl⟩ : ∃ z, n = z + 1 := ⟨n - 1, by omega⟩
    obtain ⟨nM, rfl⟩ : ∃ z, nM = z + 1 := ⟨nM - 1, by omega⟩
    have hp : p ≤ t := h.1.2.2.2
    have ht : t ≤ 120 := h.1.2.2.1.1
    obtain ⟨C', M', g1, g2, g3⟩ := line_q h
    rw [rd_s]
    unfold fX7_read_b20
    rw [if_neg (show ¬ (120 : Int32) < nI k from nI_nlt (a := 120) (by omega) (by omega)), g1, g2]
    simp only [bE_u]
    rw [tx_s]
    unfold fX12_text_b42
    rcases g3 with ⟨p', x, hpp, g3⟩ | ⟨q, g3⟩
    · obtain ⟨⟨fC, fM, hT, hp'⟩, ⟨c1, c2, c3, c4⟩, ⟨m1, m2, m3, m4, m5⟩, ⟨n1, n2⟩, hL, b1, b2, b3⟩ := g3
      have hB : p' < t → B p' < 256 := fun z => (hT.2.2.2 p' z).1
      rw [c2, m2, if_neg m1_ng, if_neg m1_ng, if_neg m1_ng, c1, hT.2.1, look_q hT (EqOff.refl) hp' m1]
      simp only [bd_u]
      by_cases hpt : p' < t
      · rw [if_pos (nI_lt hpt (by omega)), sees_q hT EqOff.refl hp' c1 (th := 10) (by omega)]
        simp only [bd_u]
        cases z : sz t B p' 10 with
        | true =>
          obtain ⟨-, hb⟩ := sz_t.mp z
          have e59 : B p' = 59 := by simpa [sgB, sgT] using hb
          simp only [if_true]
          rw [if_neg one_ne, if_pos (show lk t B p' = (59 : Int32) from (lk_s (s := 59) hB (by omega)).mpr ⟨hpt, e59⟩), m1, nI_1, nI_1]
          simp only [nm_u]
          refine ih (m - 1) (by omega) (p' + 1) (L ++ [x]) _ _ (k + 1) n nM (by omega) (by omega) (by omega) (by omega) ?_
          have eC : EqOff [703] C' (msI C' 703 0 0 (nI (p' + 1))) := EqOff.refl.I rfl
          have eM : EqOff [1234] M' (msI M' 1234 0 0 (nI (p' + 1))) := EqOff.refl.I rfl
          have kC := eC.on (K := [704, 1001, 4400]) rfl
          have kM := eM.on (K := [1235, 1236, 1237, 7700, 7800, 7900, 8000, 8100]) rfl
          have eC' : FrC C' (msI C' 703 0 0 (nI (p' + 1))) := FrC.refl.I rfl
          have eM' : FrM M' (msI M' 1234 0 0 (nI (p' + 1))) := FrM.refl.I rfl
          refine ⟨⟨fC.trans eC', fM.trans eM', hT.fr eC' eM', hpt⟩, ⟨by simp only [uI_I, uL_L, uR_R, uI_L, uI_R, uL_I, uL_R, uR_I, uR_L, Nat.reduceEqDiff, false_and, and_false, true_and, and_true, ↓reduceIte], by rw [(kC 704 (by decide)).1]; exact c2, by rw [(kC 1001 (by decide)).1]; exact c3, by rw [(kC 4400 (by decide)).1]; exact c4⟩, ⟨by simp only [uI_I, uL_L, uR_R, uI_L, uI_R, uL_I, uL_R, uR_I, uR_L, Nat.reduceEqDiff, false_and, and_false, true_and, and_true, ↓reduceIte], by rw [(kM 1235 (by decide)).1]; exact m2, by rw [(kM 1236 (by decide)).1]; exact m3, by rw [(kM 1237 (by decide)).1]; exact m4, by rw [(kM 7700 (by decide)).1, (kM 7800 (by decide)).1]; exact m5⟩, ⟨by rw [(kM 7900 (by decide)).1]; exact n1, by rw [(kM 8000 (by decide)).1, (kM 8100 (by decide)).1]; exact n2⟩, hL, by omega, by omega, by omega⟩
        | false =>
          have hl3 : ¬ lk t B p' = (59 : Int32) := fun e => by
            have h2 := (lk_s (s := 59) hB (by omega)).mp e
            have h3 : sz t B p' 10 = true := sz_t.mpr ⟨h2.1, show sgB 10 (B p') = true by rw [h2.2]; decide⟩
            rw [z] at h3
            cases h3
          simp only [Bool.false_eq_true, if_false, if_true]
          rw [if_neg hl3, m1, hT.2.2.1, if_neg (nI_ge hpt (by omega))]
          have eW : fX12_wrong M' = some ((), msI M' 1235 0 0 (nI p')) := by
            unfold fX12_wrong
            rw [m2, if_neg m1_ng, nm_u, nm_u, m1]
          rw [eW]
          simp only [bE_u, nm_u, uI_I, uL_L, uR_R, uI_L, uI_R, uL_I, uL_R, uR_I, uR_L, Nat.reduceEqDiff, false_and, and_false, true_and, and_true, ↓reduceIte]
          rw [if_neg (show ¬ nI p' < 0 from nI_pos (by omega))]
          exact Or.inl ⟨p', C', msI M' 1235 0 0 (nI p'), hp', rfl, fC, fM.trans (FrM.refl.I rfl), rfl⟩
      · have hl3 : ¬ lk t B p' = (59 : Int32) := fun e => hpt ((lk_s (s := 59) hB (by omega)).mp e).1
        rw [if_neg (nI_nlt (by omega) (by omega)), if_neg hl3, m1, hT.2.2.1, if_pos (nI_le (by omega) (by omega))]
        simp only [nm_u, uI_I, uL_L, uR_R, uI_L, uI_R, uL_I, uL_R, uR_I, uR_L, Nat.reduceEqDiff, false_and, and_false, true_and, and_true, ↓reduceIte]
        rw [m2, if_pos (show (-1 : Int32) < 0 by decide)]
        exact Or.inr ⟨p', L ++ [x], C', M', rfl, by simp, ⟨⟨fC, fM, hT, hp'⟩, ⟨c1, c2, c3, c4⟩, ⟨m1, m2, m3, m4, m5⟩, ⟨n1, n2⟩, hL, b1, b2, b3⟩, rfl⟩
    · obtain ⟨⟨fC, fM, hT⟩, hq, m2, hc⟩ := g3
      have hge : 0 ≤ mgI M' 1235 0 0 := by rw [m2]; exact nI_pos' (by omega)
      rw [if_pos hge, if_pos hge]
      simp only [nm_u, uI_I, uL_L, uR_R, uI_L, uI_R, uL_I, uL_R, uR_I, uR_L, Nat.reduceEqDiff, false_and, and_false, true_and, and_true, ↓reduceIte]
      rw [if_neg (show ¬ mgI M' 1235 0 0 < 0 from Int32.not_lt.mpr hge), m2]
      rcases hc with c1 | ⟨c1, c2, c3, c4, c5⟩
      · rw [c1, if_pos (nI_pos' (by omega))]
        exact Or.inl ⟨q, C', M', hq, rfl, fC, fM, rfl⟩
      · rw [c1, if_neg m1_ng, c2, hT.2.1, if_pos (nI_lt c3 (by omega)), sees_q hT EqOff.refl hq c2 (th := 10) (by omega)]
        have e : sz t B q 10 = false := by
          unfold sz
          rw [dig_o _ c4 c5 10 (by omega)]
          simp
        rw [e]
        simp only [bd_u, Bool.false_eq_true, if_false, if_true]
        exact Or.inl ⟨q, C', M', hq, rfl, fC, fM, rfl⟩
/-! what was read becomes a text -/
theorem ev_nar {fa : Nat → Int32} {lim : Nat} : ∀ {l : List (Nat × Nat)} {s s' : List Int32}, evL fa lim l s = some s' → ∀ x ∈ l, vp_nar .byte (xM x) = xM x
  | [], _, _, _, x, hx => by cases hx
  | y :: l, s, s', h, x, hx => by
    obtain ⟨s1, e1, e2, e3⟩ := evL_cons h
    rcases List.mem_cons.mp hx with rfl | hx
    · obtain ⟨c, a⟩ := x
      rcases Nat.lt_or_ge c 5 with hc | hc
      · have hc5 : c = 0 ∨ c = 1 ∨ c = 2 ∨ c = 3 ∨ c = 4 := by omega
        rcases hc5 with rfl | rfl | rfl | rfl | rfl
        · exact (show vp_nar .byte (1 : Int32) = 1 by decide +kernel)
        · exact (show vp_nar .byte (2 : Int32) = 2 by decide +kernel)
        · exact (show vp_nar .byte (3 : Int32) = 3 by decide +kernel)
        · exact (show vp_nar .byte (4 : Int32) = 4 by decide +kernel)
        · cases s with
          | nil => cases e1
          | cons v s => cases s with
            | nil => cases e1
            | cons w s =>
              simp only [ev1] at e1
              by_cases ha : a ∈ sgs
              · exact (by decide +kernel : ∀ b ∈ sgs, vp_nar .byte (nI b) = nI b) a ha
              · rw [if_neg ha] at e1
                cases e1
      · obtain ⟨c, rfl⟩ : ∃ k, c = k + 5 := ⟨c - 5, by omega⟩
        simp [ev1] at e1
    · exact ev_nar e3 x hx
theorem WF.nar {l : List (Nat × Nat)} {d : Nat} (h : WF l d) : ∀ x ∈ l, vp_nar .byte (xM x) = xM x := by
  obtain ⟨v, hv⟩ := h (fun _ => 0) d [] (by simp)
  exact ev_nar hv
theorem okL.nar : ∀ {L : List (List Tok × List Tok)}, okL L → ∀ x ∈ acM L, vp_nar .byte (xM x) = xM x
  | [], _, x, hx => by cases hx
  | y :: L, h, x, hx => by
    have h1 := h y (by simp)
    rcases List.mem_append.mp (show x ∈ (y.1 ++ y.2) ++ acM L from hx) with hx | hx
    · rcases List.mem_append.mp hx with hx | hx
      · rcases h1.1 with e | w
        · rw [e] at hx
          cases hx
        · exact w.nar x hx
      · exact h1.2.nar x hx
    · exact okL.nar (fun z hz => h z (by simp [hz])) x hx
theorem acm_nar {f g : Nat → Int32} : ∀ {i : Nat} {l : List Tok}, acm f g i l → (∀ x ∈ l, vp_nar .byte (xM x) = xM x) → ∀ j, j < l.length → vp_nar .byte (f (i + j)) = f (i + j)
  | i, [], _, _, j, hj => absurd hj (Nat.not_lt_zero j)
  | i, x :: l, h, hx, 0, _ => by
    show vp_nar .byte (f i) = f i
    rw [h.1]
    exact hx x (by simp)
  | i, x :: l, h, hx, j + 1, hj => by
    have := acm_nar h.2.2 (fun y hy => hx y (by simp [hy])) j (by simpa using hj)
    rw [show i + (j + 1) = i + 1 + j by omega]
    exact this
theorem lnm_nar {te le : Nat → Int32} : ∀ {m a : Nat} {L : List (List Tok × List Tok)}, lnm te le m a L → a + (acM L).length < 131 → ∀ j, j < L.length → vp_nar .short (te (m + j)) = te (m + j) ∧ vp_nar .short (le (m + j)) = le (m + j)
  | m, a, [], _, _, j, hj => absurd hj (Nat.not_lt_zero j)
  | m, a, x :: L, h, ha, 0, _ => by
    have e : (acM (x :: L)).length = x.1.length + x.2.length + (acM L).length := by simp [acM]; omega
    show vp_nar .short (te m) = te m ∧ vp_nar .short (le m) = le m
    rw [h.1, h.2.1]
    exact ⟨sh_v _ (by omega), sh_v _ (by omega)⟩
  | m, a, x :: L, h, ha, j + 1, hj => by
    have e : (acM (x :: L)).length = x.1.length + x.2.length + (acM L).length := by simp [acM]; omega
    have := lnm_nar h.2.2 (by omega) j (by simpa using hj)
    rw [show m + (j + 1) = m + 1 + j by omega]
    exact this
/-- the component's text -/
theorem bec_q {u n : Nat} (hu : u < 2) (hn : n ≤ 121) {C : Mem} (h1 : mgI C 1001 2 0 = nI n) : ∃ C', fX10_become u (some 2) C = some ((), C') ∧ EqOff [1001, 4400] C C' ∧ (∀ i, mgI C' 1001 i 0 = if i = u then nI n else mgI C 1001 i 0) ∧ ∀ i j, mgI C' 4400 i j = if i = u ∧ j < n then mgI C 4400 2 j else mgI C 4400 i j := by
  unfold fX10_become
  rw [oc_SU, h1, if_neg (show ¬ (121 : Int32) < nI n from nI_nlt (a := 121) hn (by omega))]
  simp only [nm_u]
  generalize hC3 : msI C 1001 u 0 (nI n) = C3
  have e3 : EqOff [1001] C C3 := by subst hC3; exact EqOff.refl.I rfl
  have v3 : ∀ i, mgI C3 1001 i 0 = if i = u then nI n else mgI C 1001 i 0 := fun i => by subst hC3; simp only [uI_I, uL_L, uR_R, uI_L, uI_R, uL_I, uL_R, uR_I, uR_L, Nat.reduceEqDiff, false_and, and_false, true_and, and_true, ↓reduceIte]
  have k3 : mgI C3 4400 = mgI C 4400 := (e3.on (K := [4400]) rfl 4400 (by decide)).1
  have H := lpR (fun m k (x : Mem) => fX10_become_l15 u 2 m (nI k) x) (fun r => EqOff [4400] C3 r.2 ∧ ∀ i j, mgI r.2 4400 i j = if i = u ∧ j < n then mgI C3 4400 2 j else mgI C3 4400 i j) n (fun k x => EqOff [4400] C3 x ∧ ∀ i j, mgI x 4400 i j = if i = u ∧ j < k then mgI C3 4400 2 j else mgI C3 4400 i j) (fun m x hI => ?_) (fun m k x hk hI kx => ?_) FU 0 C3 (Nat.zero_le _) ⟨EqOff.refl, fun i j => by rw [if_neg (by omega)]⟩ (FU_lt (by omega))
  · obtain ⟨⟨r1, r2⟩, e, g1, g2⟩ := H
    dsimp only at g1 g2
    refine ⟨r2, e, EqOff.trans (e3.wide rfl) (g1.wide rfl), fun i => ?_, fun i j => ?_⟩
    · rw [(g1.on (K := [1001]) rfl 1001 (by decide)).1]
      exact v3 i
    · rw [g2, k3]
  · simp only [fX10_become_l15, fX10_become_b15]
    rw [(hI.1.on (K := [1001]) rfl 1001 (by decide)).1, v3, if_pos rfl, if_pos (nI_le (Nat.le_refl _) (by omega))]
    exact Rt_s hI
  · simp only [fX10_become_l15, fX10_become_b15]
    rw [(hI.1.on (K := [1001]) rfl 1001 (by decide)).1, v3, if_pos rfl, if_neg (nI_ge hk (by omega))]
    simp only [nm_u, ix_n (show k < 121 by omega) (show 121 < 2 ^ 31 by omega), nI_clamp (show k < 2 ^ 31 by omega), nI_1]
    refine kx _ ⟨hI.1.I rfl, fun i j => ?_⟩
    simp only [uI_I, uL_L, uR_R, uI_L, uI_R, uL_I, uL_R, uR_I, uR_L, Nat.reduceEqDiff, false_and, and_false, true_and, and_true, ↓reduceIte]
    rw [hI.2 2 k, if_neg (show ¬ (2 = u ∧ k < k) by omega)]
    by_cases e : i = u ∧ j = k
    · rw [if_pos e, if_pos ⟨e.1, by omega⟩, e.2]
    · rw [if_neg e, hI.2 i j]
      by_cases e2 : i = u ∧ j < k
      · rw [if_pos e2, if_pos (by omega)]
      · rw [if_neg e2, if_neg (by omega)]
/-- the reference's text -/
theorem cpa_l {u n nl : Nat} (hu : u < 2) (hn : n ≤ 130) (P : Int32 × Mem → Prop) {M0 : Mem} (h1 : mgI M0 1237 0 0 = nI n) (h2 : mgI M0 7900 0 2 = nI nl) (hna : ∀ j, j < n → vp_nar .byte (mgI M0 7700 0 (260 + j)) = mgI M0 7700 0 (260 + j))
    (kk : ∀ M1, EqOff [7700, 7800, 7900] M0 M1 → (∀ j, j < n → mgI M1 7700 0 (130 * u + j) = mgI M0 7700 0 (260 + j) ∧ mgI M1 7800 0 (130 * u + j) = mgI M0 7800 0 (260 + j)) → (∀ j, (j < 130 * u ∨ 130 * u + 130 ≤ j) → mgI M1 7700 0 j = mgI M0 7700 0 j ∧ mgI M1 7800 0 j = mgI M0 7800 0 j) → mgI M1 7900 0 u = nI nl → (∀ i, i ≠ u → mgI M1 7900 0 i = mgI M0 7900 0 i) → Rt (fX12_text_l191_117 (nI u) FU (0 : Int32) M1) P) : Rt (fX12_text_l119_111 (nI u) FU (0 : Int32) M0) P := by
  refine lpR (fun m k (x : Mem) => fX12_text_l119_111 (nI u) m (nI k) x) P n (fun k x => EqOff [7700, 7800] M0 x ∧ (∀ j, j < k → mgI x 7700 0 (130 * u + j) = mgI M0 7700 0 (260 + j) ∧ mgI x 7800 0 (130 * u + j) = mgI M0 7800 0 (260 + j)) ∧ ∀ j, (j < 130 * u ∨ 130 * u + 130 ≤ j) → mgI x 7700 0 j = mgI M0 7700 0 j ∧ mgI x 7800 0 j = mgI M0 7800 0 j) (fun m x hI => ?_) (fun m k x hk hI kx => ?_) FU 0 M0 (Nat.zero_le _) ⟨EqOff.refl, fun j hj => absurd hj (Nat.not_lt_zero j), fun j _ => ⟨rfl, rfl⟩⟩ (FU_lt (by omega))
  · have k := hI.1.on (K := [1237, 7900]) rfl
    simp only [fX12_text_l119_111, fX12_text_b119_111]
    rw [(k 1237 (by decide)).1, h1, if_pos (nI_le (Nat.le_refl _) (by omega)), cl_2, (k 7900 (by decide)).1, h2, nm_u, ix_n (show u < 3 by omega) (by omega), nI_clamp (by omega)]
    simp only [nm_u]
    generalize hx : msI x 7900 0 u (nI nl) = x1
    have e : EqOff [7900] x x1 := by subst hx; exact EqOff.refl.I rfl
    have kx := e.on (K := [7700, 7800]) rfl
    refine kk x1 (EqOff.trans (hI.1.wide rfl) (e.wide rfl)) (fun j hj => ?_) (fun j hj => ?_) (by subst hx; simp only [uI_I, uL_L, uR_R, uI_L, uI_R, uL_I, uL_R, uR_I, uR_L, Nat.reduceEqDiff, false_and, and_false, true_and, and_true, ↓reduceIte]) (fun i hi => by subst hx; simp only [uI_I, uL_L, uR_R, uI_L, uI_R, uL_I, uL_R, uR_I, uR_L, Nat.reduceEqDiff, false_and, and_false, true_and, and_true, ↓reduceIte]; rw [if_neg hi, (k 7900 (by decide)).1])
    · rw [(kx 7700 (by decide)).1, (kx 7800 (by decide)).1]
      exact hI.2.1 j hj
    · rw [(kx 7700 (by decide)).1, (kx 7800 (by decide)).1]
      exact hI.2.2 j hj
  · have k1 := hI.1.on (K := [1237]) rfl
    simp only [fX12_text_l119_111, fX12_text_b119_111]
    have e1 : (130 : Int32) * nI u + nI k = nI (130 * u + k) := by rw [show (130 : Int32) = nI 130 from rfl, pk_mul, nI_add]
    have e2 : (260 : Int32) + nI k = nI (260 + k) := by rw [show (260 : Int32) = nI 260 from rfl, nI_add]
    rw [(k1 1237 (by decide)).1, h1, if_neg (nI_ge hk (by omega)), e1, e2]
    simp only [nm_u, ix_n (show 260 + k < 390 by omega) (show 390 < 2 ^ 31 by omega), ix_n (show 130 * u + k < 390 by omega) (show 390 < 2 ^ 31 by omega), nI_clamp (show 260 + k < 2 ^ 31 by omega), nI_clamp (show 130 * u + k < 2 ^ 31 by omega), nI_1]
    have hs := hI.2.2 (260 + k) (by omega)
    refine kx _ ⟨(hI.1.I rfl).I rfl, fun j hj => ?_, fun j hj => ?_⟩
    · simp only [uI_I, uL_L, uR_R, uI_L, uI_R, uL_I, uL_R, uR_I, uR_L, Nat.reduceEqDiff, false_and, and_false, true_and, and_true, ↓reduceIte]
      by_cases e : j = k
      · subst e
        rw [if_pos rfl, if_pos rfl, hs.1, hs.2]
        exact ⟨hna j hk, rfl⟩
      · rw [if_neg (by omega), if_neg (by omega)]
        exact hI.2.1 j (by omega)
    · simp only [uI_I, uL_L, uR_R, uI_L, uI_R, uL_I, uL_R, uR_I, uR_L, Nat.reduceEqDiff, false_and, and_false, true_and, and_true, ↓reduceIte]
      rw [if_neg (by omega), if_neg (by omega)]
      exact hI.2.2 j hj
theorem cpb_l {u nl : Nat} (hu : u < 2) (hn : nl ≤ 61) {M0 : Mem} (h1 : mgI M0 7900 0 u = nI nl) (hna : ∀ j, j < nl → vp_nar .short (mgI M0 8000 0 (122 + j)) = mgI M0 8000 0 (122 + j) ∧ vp_nar .short (mgI M0 8100 0 (122 + j)) = mgI M0 8100 0 (122 + j)) : ∃ M1, fX12_text_l191_117 (nI u) FU (0 : Int32) M0 = some (1, M1) ∧ EqOff [8000, 8100] M0 M1 ∧ (∀ j, j < nl → mgI M1 8000 0 (61 * u + j) = mgI M0 8000 0 (122 + j) ∧ mgI M1 8100 0 (61 * u + j) = mgI M0 8100 0 (122 + j)) ∧ ∀ j, (j < 61 * u ∨ 61 * u + 61 ≤ j) → mgI M1 8000 0 j = mgI M0 8000 0 j ∧ mgI M1 8100 0 j = mgI M0 8100 0 j := by
  have H := lpR (fun m k (x : Mem) => fX12_text_l191_117 (nI u) m (nI k) x) (fun r => r.1 = 1 ∧ EqOff [8000, 8100] M0 r.2 ∧ (∀ j, j < nl → mgI r.2 8000 0 (61 * u + j) = mgI M0 8000 0 (122 + j) ∧ mgI r.2 8100 0 (61 * u + j) = mgI M0 8100 0 (122 + j)) ∧ ∀ j, (j < 61 * u ∨ 61 * u + 61 ≤ j) → mgI r.2 8000 0 j = mgI M0 8000 0 j ∧ mgI r.2 8100 0 j = mgI M0 8100 0 j) nl (fun k x => EqOff [8000, 8100] M0 x ∧ (∀ j, j < k → mgI x 8000 0 (61 * u + j) = mgI M0 8000 0 (122 + j) ∧ mgI x 8100 0 (61 * u + j) = mgI M0 8100 0 (122 + j)) ∧ ∀ j, (j < 61 * u ∨ 61 * u + 61 ≤ j) → mgI x 8000 0 j = mgI M0 8000 0 j ∧ mgI x 8100 0 j = mgI M0 8100 0 j) (fun m x hI => ?_) (fun m k x hk hI kx => ?_) FU 0 M0 (Nat.zero_le _) ⟨EqOff.refl, fun j hj => absurd hj (Nat.not_lt_zero j), fun j _ => ⟨rfl, rfl⟩⟩ (FU_lt (by omega))
  · obtain ⟨⟨r1, r2⟩, e, g1, g2⟩ := H
    dsimp only at g1 g2
    subst g1
    exact ⟨r2, e, g2⟩
  · have k := hI.1.on (K := [7900]) rfl
    simp only [fX12_text_l191_117, fX12_text_b191_117]
    rw [ix_n (show u < 3 by omega) (by omega), nI_clamp (by omega), (k 7900 (by decide)).1, h1, if_pos (nI_le (Nat.le_refl _) (by omega))]
    exact Rt_s ⟨rfl, hI⟩
  · have k1 := hI.1.on (K := [7900]) rfl
    simp only [fX12_text_l191_117, fX12_text_b191_117]
    have e1 : (61 : Int32) * nI u + nI k = nI (61 * u + k) := by rw [show (61 : Int32) = nI 61 from rfl, pk_mul, nI_add]
    have e2 : (122 : Int32) + nI k = nI (122 + k) := by rw [show (122 : Int32) = nI 122 from rfl, nI_add]
    rw [ix_n (show u < 3 by omega) (by omega), nI_clamp (show u < 2 ^ 31 by omega), (k1 7900 (by decide)).1, h1, if_neg (nI_ge hk (by omega)), e1, e2]
    simp only [nm_u, ix_n (show 122 + k < 183 by omega) (show 183 < 2 ^ 31 by omega), ix_n (show 61 * u + k < 183 by omega) (show 183 < 2 ^ 31 by omega), nI_clamp (show 122 + k < 2 ^ 31 by omega), nI_clamp (show 61 * u + k < 2 ^ 31 by omega), nI_1]
    have hs := hI.2.2 (122 + k) (by omega)
    refine kx _ ⟨(hI.1.I rfl).I rfl, fun j hj => ?_, fun j hj => ?_⟩
    · simp only [uI_I, uL_L, uR_R, uI_L, uI_R, uL_I, uL_R, uR_I, uR_L, Nat.reduceEqDiff, false_and, and_false, true_and, and_true, ↓reduceIte]
      by_cases e : j = k
      · subst e
        rw [if_pos rfl, if_pos rfl, hs.1, hs.2]
        exact hna j hk
      · rw [if_neg (by omega), if_neg (by omega)]
        exact hI.2.1 j (by omega)
    · simp only [uI_I, uL_L, uR_R, uI_L, uI_R, uL_I, uL_R, uR_I, uR_L, Nat.reduceEqDiff, false_and, and_false, true_and, and_true, ↓reduceIte]
      rw [if_neg (by omega), if_neg (by omega)]
      exact hI.2.2 j hj
theorem qs_text {C M : Mem} {nS nL : Nat} (h : Sim C M nS nL) (a1 : Int32) : QA nS nL (fX11_text a1 C) (fX12_text a1 M) := by
  obtain ⟨t, t1, t2, t3, t4⟩ := sm_t1 h
  unfold fX11_text fX12_text
  simp only [nm_u]
  rcases rg_c a1 0 1 (by decide) (by decide) with ⟨h1, h2⟩ | ⟨h1, h2⟩ | ⟨u, -, hu, rfl⟩
  · rw [if_pos (show a1 < 0 from h1), in_lo (show a1 < 0 from h1), if_pos rfl]
    exact QA_same h rfl rfl
  · rw [if_neg (show ¬ a1 ≤ (1 : Int32) from h2), ite_self, in_hi (show (1 : Int32) < a1 from h1), if_pos rfl]
    exact QA_same h rfl rfl
  · rw [if_neg (nI_pos (show u < 2 ^ 31 by omega)), if_pos (show nI u ≤ (1 : Int32) from nI_le hu (by decide)), show fX12_in (nI u) (0 : Int32) (1 : Int32) = 1 from in_ok (lo := 0) (hi := 1) (Nat.zero_le _) hu (by decide), if_neg one_ne]
    have hu2 : u < 2 := by omega
    have eC : fX7_read C = fX7_read_l20 FU (nI 0) (msI (msI (msI C 1001 2 0 (0 : Int32)) 703 0 0 (0 : Int32)) 704 0 0 (-1 : Int32)) := by
      unfold fX7_read
      simp only [nm_u]
      rfl
    rw [eC, cl_2]
    generalize hC3 : msI (msI (msI C 1001 2 0 (0 : Int32)) 703 0 0 (0 : Int32)) 704 0 0 (-1 : Int32) = C3
    generalize hM7 : msI (msI (msI (msI (msI M 1234 0 0 (0 : Int32)) 1235 0 0 (-1 : Int32)) 1236 0 0 (0 : Int32)) 1237 0 0 (0 : Int32)) 7900 0 2 (0 : Int32) = M7
    have fC3 : FrC C C3 := by
      subst hC3
      refine FrC.I (FrC.I ⟨EqOff.refl.I rfl, fun v hv => ⟨?_, fun j => ?_⟩⟩ rfl) rfl <;> rw [uI_I, if_neg (by omega)]
    have fM7 : FrM M M7 := by
      subst hM7
      exact fr_8 (FrM.I (FrM.I (FrM.I (FrM.I FrM.refl rfl) rfl) rfl) rfl) (Or.inr ⟨rfl, by omega⟩)
    have hT : TaB t (fun k => (mgI C 3900 0 k).toNatClampNeg) C M := ⟨t1, t2, t3, fun k hk => by
      obtain ⟨b, hb, e1, e2⟩ := t4 k hk
      dsimp only
      rw [e1, nI_clamp (by omega)]
      exact ⟨hb, rfl, e2⟩⟩
    generalize (fun k => (mgI C 3900 0 k).toNatClampNeg) = B at hT
    have hs : LSt t B C M 0 0 [] C3 M7 := by
      refine ⟨⟨fC3, fM7, hT.fr fC3 fM7, Nat.zero_le _⟩, ⟨?_, ?_, ?_, trivial⟩, ⟨?_, ?_, ?_, ?_, trivial⟩, ⟨?_, trivial⟩, fun x hx => ?_, Nat.zero_le _, Nat.zero_le _, Nat.zero_le _⟩
      · subst hC3; simp only [uI_I, uL_L, uR_R, uI_L, uI_R, uL_I, uL_R, uR_I, uR_L, Nat.reduceEqDiff, false_and, and_false, true_and, and_true, ↓reduceIte]; rfl
      · subst hC3; simp only [uI_I, uL_L, uR_R, uI_L, uI_R, uL_I, uL_R, uR_I, uR_L, Nat.reduceEqDiff, false_and, and_false, true_and, and_true, ↓reduceIte]
      · subst hC3; simp only [uI_I, uL_L, uR_R, uI_L, uI_R, uL_I, uL_R, uR_I, uR_L, Nat.reduceEqDiff, false_and, and_false, true_and, and_true, ↓reduceIte]; rfl
      · subst hM7; simp only [uI_I, uL_L, uR_R, uI_L, uI_R, uL_I, uL_R, uR_I, uR_L, Nat.reduceEqDiff, false_and, and_false, true_and, and_true, ↓reduceIte]; rfl
      · subst hM7; simp only [uI_I, uL_L, uR_R, uI_L, uI_R, uL_I, uL_R, uR_I, uR_L, Nat.reduceEqDiff, false_and, and_false, true_and, and_true, ↓reduceIte]
      · subst hM7; simp only [uI_I, uL_L, uR_R, uI_L, uI_R, uL_I, uL_R, uR_I, uR_L, Nat.reduceEqDiff, false_and, and_false, true_and, and_true, ↓reduceIte]; rfl
      · subst hM7; simp only [uI_I, uL_L, uR_R, uI_L, uI_R, uL_I, uL_R, uR_I, uR_L, Nat.reduceEqDiff, false_and, and_false, true_and, and_true, ↓reduceIte]; rfl
      · subst hM7; simp only [uI_I, uL_L, uR_R, uI_L, uI_R, uL_I, uL_R, uR_I, uR_L, Nat.reduceEqDiff, false_and, and_false, true_and, and_true, ↓reduceIte]; rfl
      · cases hx
    clear hC3 hM7 eC
    have R := read_l (u := u) (t - 0) 0 [] C3 M7 0 FU FU (Nat.le_refl _) (FU_lt (by omega)) (FU_lt (by omega)) (Nat.le_refl _) hs
    rcases R with ⟨q, C4, M4, hq, e1, fC, fM, e2⟩ | ⟨p, L, C4, M4, e1, hne, hl, e2⟩
    · rw [e1, e2]
      simp only [bE_u, nm_u]
      rw [if_neg (show ¬ nI q < 0 from nI_pos (by omega))]
      refine ⟨_, _, _, rfl, rfl, ?_⟩
      generalize hC5 : msI C4 701 0 0 (0 : Int32) = C5
      generalize hM5 : msI M4 1233 0 0 (0 : Int32) = M5
      have hC : EqOff (701 :: scL) C C5 := by subst hC5; exact (fC.1.wide (by decide)).I rfl
      have hM : EqOff (1233 :: smL) M M5 := by subst hM5; exact (fM.1.wide (by decide)).I rfl
      have hCt : TxC C C5 := by subst hC5; exact fC.2.trans ((EqOff.refl.I (L := [701]) rfl).txC rfl)
      have hMt : TxM M M5 := by subst hM5; exact fM.2.trans ((EqOff.refl.I (L := [1233]) rfl).txM rfl)
      have g : f_t1 C5 M5 nS nL := ⟨0, Nat.zero_le _, by subst hC5; simp only [uI_I, uL_L, uR_R, uI_L, uI_R, uL_I, uL_R, uR_I, uR_L, Nat.reduceEqDiff, false_and, and_false, true_and, and_true, ↓reduceIte]; rfl, by subst hM5; simp only [uI_I, uL_L, uR_R, uI_L, uI_R, uL_I, uL_R, uR_I, uR_L, Nat.reduceEqDiff, false_and, and_false, true_and, and_true, ↓reduceIte]; rfl, fun k hk => absurd hk (Nat.not_lt_zero k)⟩
      exact ⟨fr_b1 (sm_b1 h),
    fr_c1 (hC.on rfl)  (sm_c1 h),
    fr_c2  (hM.on rfl) (sm_c2 h),
    fr_r1 (hC.on rfl)  (sm_r1 h),
    fr_r2 (hC.on rfl)  (sm_r2 h),
    fr_s0 (hC.on rfl)  (sm_s0 h),
    fr_sK (hC.on rfl) (hM.on rfl) (sm_sK h),
    fr_sM (hC.on rfl) (hM.on rfl) (sm_sM h),
    fr_sA (hC.on rfl) (hM.on rfl) (sm_sA h),
    fr_sB (hC.on rfl) (hM.on rfl) (sm_sB h),
    fr_sI (hC.on rfl) (hM.on rfl) (sm_sI h),
    fr_sW (hC.on rfl) (hM.on rfl) (sm_sW h),
    fr_sP (hC.on rfl) (hM.on rfl) (sm_sP h),
    fr_sH (hC.on rfl) (hM.on rfl) (sm_sH h),
    fr_sT (hC.on rfl) (hM.on rfl) (sm_sT h),
    fr_vK  (hM.on rfl) (sm_vK h),
    fr_vB  (hM.on rfl) (sm_vB h),
    fr_n1  (hM.on rfl) (sm_n1 h),
    fr_n2 (hC.on rfl) (hM.on rfl) (sm_n2 h),
    fr_vM  (hM.on rfl) (sm_vM h),
    fr_vT  (hM.on rfl) (sm_vT h),
    fr_tB (hC.on rfl) (hM.on rfl) (sm_tB h),
    fr_vJ  (hM.on rfl) (sm_vJ h),
    fr_vH  (hM.on rfl) (sm_vH h),
    fr_l0 (hC.on rfl) (hM.on rfl) (sm_l0 h),
    fr_l1 (hC.on rfl) (hM.on rfl) (sm_l1 h),
    fr_l3 (hC.on rfl) (hM.on rfl) (sm_l3 h),
    fr_l4 (hC.on rfl) (hM.on rfl) (sm_l4 h),
    fr_l5 (hC.on rfl) (hM.on rfl) (sm_l5 h),
    fr_vL  (hM.on rfl) (sm_vL h),
    fr_vW  (hM.on rfl) (sm_vW h),
    fr_vE  (hM.on rfl) (sm_vE h),
    fr_vD  (hM.on rfl) (sm_vD h),
    fr_h1 (hC.on rfl) (hM.on rfl) (sm_h1 h),
    fr_h2 (hC.on rfl) (hM.on rfl) (sm_h2 h),
    fr_h3 (hC.on rfl) (hM.on rfl) (sm_h3 h),
    fr_h4 (hC.on rfl) (hM.on rfl) (sm_h4 h),
    fr_h5 (hC.on rfl) (hM.on rfl) (sm_h5 h),
    fr_z1  (hM.on rfl) (sm_z1 h),
    fr_z2  (hM.on rfl) (sm_z2 h),
    fr_z3  (hM.on rfl) (sm_z3 h),
    fr_e1 (hC.on rfl) (hM.on rfl) (sm_e1 h),
    fr_e2  (hM.on rfl) (sm_e2 h),
    fr_e3 (hC.on rfl) (hM.on rfl) (sm_e3 h),
    fr_o1  (hM.on rfl) (sm_o1 h),
    fr_o2 (hC.on rfl) (hM.on rfl) (sm_o2 h),
    fr_o3 (hC.on rfl) (hM.on rfl) (sm_o3 h),
    fr_o4 (hC.on rfl) (hM.on rfl) (sm_o4 h),
    fr_o5 (hC.on rfl) (hM.on rfl) (sm_o5 h),
    fr_o6  (hM.on rfl) (sm_o6 h),
    fr_g1 (hC.on rfl) (hM.on rfl) (sm_g1 h),
    fr_d1 (hC.on rfl) (hM.on rfl) (sm_d1 h),
    g,
    fr_x1 hCt hMt (sm_x1 h),
    fr_a1 (hC.on rfl) (hM.on rfl) (sm_a1 h),
    fr_a2 (hC.on rfl) (hM.on rfl) (sm_a2 h),
    fr_p1 (hC.on rfl) (hM.on rfl) (sm_p1 h),
    fr_p2 (hC.on rfl) (hM.on rfl) (sm_p2 h)⟩
    · obtain ⟨⟨fC, fM, hT4, hp⟩, ⟨c1, c2, c3, c4⟩, ⟨m1, m2, m3, m4, m5⟩, ⟨n1, n2⟩, hL, b1, b2, b3⟩ := hl
      rw [e1, e2]
      simp only [bE_u, nm_u]
      rw [if_pos (show (-1 : Int32) < 0 by decide)]
      have g701 : EqOff [701] C4 (msI C4 701 0 0 (0 : Int32)) := EqOff.refl.I rfl
      have k701 := g701.on (K := [1001, 4400]) rfl
      obtain ⟨C5, r1, r2, r3, r4⟩ := bec_q (u := u) (n := (itC L).length) hu2 (by omega) (C := msI C4 701 0 0 (0 : Int32)) (by rw [(k701 1001 (by decide)).1]; exact c3)
      have eX : (if nI u = 0 then (bE (fX10_become 0 (some 2) (msI C4 701 0 0 (0 : Int32))) fun u10 M11 => some ((1 : Int32), M11)) else (bE (fX10_become 1 (some 2) (msI C4 701 0 0 (0 : Int32))) fun u8 M9 => some ((1 : Int32), M9)) : Option (Int32 × Mem)) = some (1, C5) := by
        have hu3 : u = 0 ∨ u = 1 := by omega
        rcases hu3 with rfl | rfl
        · rw [if_pos (show nI 0 = 0 from rfl), r1]
          rfl
        · rw [if_neg (show ¬ nI 1 = 0 by decide), r1]
          rfl
      rw [eX]
      have g1233 : EqOff [1233] M4 (msI M4 1233 0 0 (0 : Int32)) := EqOff.refl.I rfl
      have k1233 := g1233.on (K := [1237, 7700, 7800, 7900, 8000, 8100]) rfl
      have z1233 : mgI (msI M4 1233 0 0 (0 : Int32)) 1233 0 0 = 0 := by simp only [uI_I, uL_L, uR_R, uI_L, uI_R, uL_I, uL_R, uR_I, uR_L, Nat.reduceEqDiff, false_and, and_false, true_and, and_true, ↓reduceIte]
      have H := cpa_l (u := u) (n := (acM L).length) (nl := L.length) hu2 (by omega) (fun r => r.1 = 1 ∧ EqOff [7700, 7800, 7900, 8000, 8100] (msI M4 1233 0 0 (0 : Int32)) r.2 ∧ acm (mgI r.2 7700 0) (mgI r.2 7800 0) (130 * u) (acM L) ∧ lnm (mgI r.2 8000 0) (mgI r.2 8100 0) (61 * u) 0 L ∧ mgI r.2 7900 0 u = nI L.length ∧ (∀ i, i ≠ u → mgI r.2 7900 0 i = mgI M4 7900 0 i) ∧ (∀ j, (j < 130 * u ∨ 130 * u + 130 ≤ j) → mgI r.2 7700 0 j = mgI M4 7700 0 j ∧ mgI r.2 7800 0 j = mgI M4 7800 0 j) ∧ (∀ j, (j < 61 * u ∨ 61 * u + 61 ≤ j) → mgI r.2 8000 0 j = mgI M4 8000 0 j ∧ mgI r.2 8100 0 j = mgI M4 8100 0 j)) (M0 := msI M4 1233 0 0 (0 : Int32)) (by rw [(k1233 1237 (by decide)).1]; exact m4) (by rw [(k1233 7900 (by decide)).1]; exact n1) (fun j hj => by rw [(k1233 7700 (by decide)).1]; exact acm_nar m5 hL.nar j hj) (fun M5 w1 w2 w3 w4 w5 => by
        have kw := w1.on (K := [8000, 8100]) rfl
        obtain ⟨M6, v1, v2, v3, v4⟩ := cpb_l (u := u) (nl := L.length) hu2 (by omega) (M0 := M5) w4 (fun j hj => by
          rw [(kw 8000 (by decide)).1, (kw 8100 (by decide)).1, (k1233 8000 (by decide)).1, (k1233 8100 (by decide)).1]
          exact lnm_nar n2 (by omega) j hj)
        have kv := v2.on (K := [7700, 7800, 7900]) rfl
        rw [v1]
        refine Rt_s ⟨rfl, EqOff.trans (w1.wide rfl) (v2.wide rfl), ?_, ?_, ?_, fun i hi => ?_, fun j hj => ?_, fun j hj => ?_⟩
        · rw [(kv 7700 (by decide)).1, (kv 7800 (by decide)).1]
          refine m5.cong (fun j hj => ?_)
          rw [(w2 j hj).1, (w2 j hj).2, (k1233 7700 (by decide)).1, (k1233 7800 (by decide)).1]
          exact ⟨rfl, rfl⟩
        · refine lnm_cong n2 (fun j hj => ?_)
          rw [(v3 j hj).1, (v3 j hj).2, (kw 8000 (by decide)).1, (kw 8100 (by decide)).1, (k1233 8000 (by decide)).1, (k1233 8100 (by decide)).1]
          exact ⟨rfl, rfl⟩
        · rw [(kv 7900 (by decide)).1]
          exact w4
        · rw [(kv 7900 (by decide)).1, w5 i hi, (k1233 7900 (by decide)).1]
        · rw [(kv 7700 (by decide)).1, (kv 7800 (by decide)).1, (w3 j hj).1, (w3 j hj).2, (k1233 7700 (by decide)).1, (k1233 7800 (by decide)).1]
          exact ⟨rfl, rfl⟩
        · rw [(v4 j hj).1, (v4 j hj).2, (kw 8000 (by decide)).1, (kw 8100 (by decide)).1, (k1233 8000 (by decide)).1, (k1233 8100 (by decide)).1]
          exact ⟨rfl, rfl⟩)
      obtain ⟨⟨o1, M6⟩, o2, o3, o4, o5, o6, o7, o8, o9, o10⟩ := H
      dsimp only at o3 o4 o5 o6 o7 o8 o9 o10
      subst o3
      rw [o2]
      refine ⟨1, C5, M6, rfl, rfl, ?_⟩
      have hC : EqOff (701 :: scL) C C5 := EqOff.trans (EqOff.trans (fC.1.wide (by decide)) (g701.wide (by decide))) (r2.wide (by decide))
      have hM : EqOff (1233 :: smL) M M6 := EqOff.trans (EqOff.trans (fM.1.wide (by decide)) (g1233.wide (by decide))) (o4.wide (by decide))
      have g : f_t1 C5 M6 nS nL := ⟨0, Nat.zero_le _, by rw [(r2.on (K := [701]) rfl 701 (by decide)).1]; simp only [uI_I, uL_L, uR_R, uI_L, uI_R, uL_I, uL_R, uR_I, uR_L, Nat.reduceEqDiff, false_and, and_false, true_and, and_true, ↓reduceIte]; rfl, by rw [(o4.on (K := [1233]) rfl 1233 (by decide)).1]; exact z1233, fun k hk => absurd hk (Nat.not_lt_zero k)⟩
      have gx : f_x1 C5 M6 nS nL := fun v hv => by
        by_cases e : v = u
        · subst e
          refine tx_eq hv hL (by rw [r3, if_pos rfl]) (by omega) (c4.cong (fun j hj => ?_)) o7 (by omega) (by omega) o5 o6 hne
          rw [r4, if_pos ⟨rfl, by omega⟩, (k701 4400 (by decide)).1]
        · refine (sm_x1 h v hv).cong ?_ (fun j => ?_) ?_ (fun j j1 j2 => ?_) (fun j j1 j2 => ?_)
          · rw [r3, if_neg e, (k701 1001 (by decide)).1]
            exact (fC.2 v hv).1
          · rw [r4, if_neg (by omega), (k701 4400 (by decide)).1]
            exact (fC.2 v hv).2 j
          · rw [o8 v e]
            exact fM.2.1 v hv
          · rw [(o9 j (by omega)).1, (o9 j (by omega)).2]
            exact fM.2.2.1 j (by omega)
          · rw [(o10 j (by omega)).1, (o10 j (by omega)).2]
            exact fM.2.2.2 j (by omega)
      exact ⟨fr_b1 (sm_b1 h),
    fr_c1 (hC.on rfl)  (sm_c1 h),
    fr_c2  (hM.on rfl) (sm_c2 h),
    fr_r1 (hC.on rfl)  (sm_r1 h),
    fr_r2 (hC.on rfl)  (sm_r2 h),
    fr_s0 (hC.on rfl)  (sm_s0 h),
    fr_sK (hC.on rfl) (hM.on rfl) (sm_sK h),
    fr_sM (hC.on rfl) (hM.on rfl) (sm_sM h),
    fr_sA (hC.on rfl) (hM.on rfl) (sm_sA h),
    fr_sB (hC.on rfl) (hM.on rfl) (sm_sB h),
    fr_sI (hC.on rfl) (hM.on rfl) (sm_sI h),
    fr_sW (hC.on rfl) (hM.on rfl) (sm_sW h),
    fr_sP (hC.on rfl) (hM.on rfl) (sm_sP h),
    fr_sH (hC.on rfl) (hM.on rfl) (sm_sH h),
    fr_sT (hC.on rfl) (hM.on rfl) (sm_sT h),
    fr_vK  (hM.on rfl) (sm_vK h),
    fr_vB  (hM.on rfl) (sm_vB h),
    fr_n1  (hM.on rfl) (sm_n1 h),
    fr_n2 (hC.on rfl) (hM.on rfl) (sm_n2 h),
    fr_vM  (hM.on rfl) (sm_vM h),
    fr_vT  (hM.on rfl) (sm_vT h),
    fr_tB (hC.on rfl) (hM.on rfl) (sm_tB h),
    fr_vJ  (hM.on rfl) (sm_vJ h),
    fr_vH  (hM.on rfl) (sm_vH h),
    fr_l0 (hC.on rfl) (hM.on rfl) (sm_l0 h),
    fr_l1 (hC.on rfl) (hM.on rfl) (sm_l1 h),
    fr_l3 (hC.on rfl) (hM.on rfl) (sm_l3 h),
    fr_l4 (hC.on rfl) (hM.on rfl) (sm_l4 h),
    fr_l5 (hC.on rfl) (hM.on rfl) (sm_l5 h),
    fr_vL  (hM.on rfl) (sm_vL h),
    fr_vW  (hM.on rfl) (sm_vW h),
    fr_vE  (hM.on rfl) (sm_vE h),
    fr_vD  (hM.on rfl) (sm_vD h),
    fr_h1 (hC.on rfl) (hM.on rfl) (sm_h1 h),
    fr_h2 (hC.on rfl) (hM.on rfl) (sm_h2 h),
    fr_h3 (hC.on rfl) (hM.on rfl) (sm_h3 h),
    fr_h4 (hC.on rfl) (hM.on rfl) (sm_h4 h),
    fr_h5 (hC.on rfl) (hM.on rfl) (sm_h5 h),
    fr_z1  (hM.on rfl) (sm_z1 h),
    fr_z2  (hM.on rfl) (sm_z2 h),
    fr_z3  (hM.on rfl) (sm_z3 h),
    fr_e1 (hC.on rfl) (hM.on rfl) (sm_e1 h),
    fr_e2  (hM.on rfl) (sm_e2 h),
    fr_e3 (hC.on rfl) (hM.on rfl) (sm_e3 h),
    fr_o1  (hM.on rfl) (sm_o1 h),
    fr_o2 (hC.on rfl) (hM.on rfl) (sm_o2 h),
    fr_o3 (hC.on rfl) (hM.on rfl) (sm_o3 h),
    fr_o4 (hC.on rfl) (hM.on rfl) (sm_o4 h),
    fr_o5 (hC.on rfl) (hM.on rfl) (sm_o5 h),
    fr_o6  (hM.on rfl) (sm_o6 h),
    fr_g1 (hC.on rfl) (hM.on rfl) (sm_g1 h),
    fr_d1 (hC.on rfl) (hM.on rfl) (sm_d1 h),
    g,
    gx,
    fr_a1 (hC.on rfl) (hM.on rfl) (sm_a1 h),
    fr_a2 (hC.on rfl) (hM.on rfl) (sm_a2 h),
    fr_p1 (hC.on rfl) (hM.on rfl) (sm_p1 h),
    fr_p2 (hC.on rfl) (hM.on rfl) (sm_p2 h)⟩
