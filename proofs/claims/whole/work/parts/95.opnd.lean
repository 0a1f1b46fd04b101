/-! a number -/
theorem nmb_l {t : Nat} {B : Nat → Nat} {C1 M1 : Mem} (hT : TaB t B C1 M1) {p0 op : Nat} {lC lM : List Tok} (hp0 : p0 < t) (hlC : lC.length ≤ p0) (hlM : lM.length ≤ p0) : ∀ (d k v : Nat) (C M : Mem) (n m : Nat), d + k = 4 → v < 10 ^ k → p0 + k ≤ t → (k = 0 → sz t B p0 0 = true) → PC C1 (p0 + k) lC C → PM M1 (p0 + k) op lM M → d < n → d < m → PO t B C1 M1 p0 op lC lM 1 (fX7_readNumber_l4 n (nI v) (nI k) C) (fX12_figure_l4 m (nI v) (nI k) M)
  | 0, k, v, C, M, n, m, hd, hv, hp, h0, pc, pm, hn, hm => by
    have hk : k = 4 := by omega
    subst hk
    have ht := hT.1
    obtain ⟨n, rfl⟩ : ∃ z, n = z + 1 := ⟨n - 1, by omega⟩
    obtain ⟨m, rfl⟩ : ∃ z, m = z + 1 := ⟨m - 1, by omega⟩
    have hB : p0 + 4 < t → B (p0 + 4) < 256 := fun z => (hT.2.2.2 _ z).1
    simp only [fX7_readNumber_l4, fX7_readNumber_b4, fX12_figure_l4, fX12_figure_b4]
    rw [if_pos (show (4 : Int32) ≤ nI 4 by decide), if_pos (show (4 : Int32) ≤ nI 4 by decide), if_neg (show ¬ nI 4 = 0 by decide), look_q hT pm.1.1 hp pm.2.1]
    simp only [bd_u, nm_u]
    rw [lk_in hB]
    obtain ⟨C2, a1, a2⟩ := add_q pc (by omega) (0, v) (v := nI v) rfl
    rw [a1]
    simp only [bE_u]
    cases hz : sz t B (p0 + 4) 0 with
    | false =>
      simp only [Bool.false_eq_true, if_false, if_true]
      obtain ⟨M2, b1, b2⟩ := lay_q pm (by omega) (0, v) (v := 1) (w := nI v) rfl rfl (show vp_nar .byte ((1 : Int32).toInt8.toInt32) = 1 by decide +kernel)
      rw [b1]
      simp only [bE_u]
      exact ⟨C2, M2, rfl, rfl, Or.inl ⟨[(0, v)], p0 + 4, WF.num (by omega), by simp, by omega, hp, a2, b2⟩⟩
    | true =>
      simp only [if_true]
      rw [if_neg one_ne]
      obtain ⟨hpt, hb⟩ := sz_t.mp hz
      have hr := dig_r _ (hB hpt) hb
      obtain ⟨M2, b1, b2⟩ := wrong_q (t := t) pm hp
      rw [b1]
      simp only [bE_u]
      obtain ⟨M3, c1, c2⟩ := layF_q b2 (by omega) (1 : Int32) (nI v)
      rw [c1]
      simp only [bE_u]
      exact ⟨C2, M3, rfl, rfl, Or.inr ⟨p0 + 4, lM.length + 1, hp, by omega, ⟨a2.1, ⟨(lC ++ [(0, v)]).length, by simp; omega, a2.2.2.2.1⟩, Or.inr ⟨a2.2.2.1, a2.2.1, hpt, hr⟩⟩, c2⟩⟩
  | d + 1, k, v, C, M, n, m, hd, hv, hp, h0, pc, pm, hn, hm => by
    have ht := hT.1
    obtain ⟨n, rfl⟩ : ∃ z, n = z + 1 := ⟨n - 1, by omega⟩
    obtain ⟨m, rfl⟩ : ∃ z, m = z + 1 := ⟨m - 1, by omega⟩
    have hB : p0 + k < t → B (p0 + k) < 256 := fun z => (hT.2.2.2 _ z).1
    have hv4 : v < 10000 := Nat.lt_of_lt_of_le hv (show 10 ^ k ≤ 10 ^ 4 from Nat.pow_le_pow_right (by omega) (by omega))
    have hlk := look_q hT pm.1.1 hp pm.2.1
    have hse := sees_q hT pc.1.1 hp pc.2.1 (th := 0) (by omega)
    simp only [fX7_readNumber_l4, fX7_readNumber_b4, fX12_figure_l4, fX12_figure_b4]
    rw [if_neg (show ¬ (4 : Int32) ≤ nI k from nI_ge (b := 4) (by omega) (by decide)), if_neg (show ¬ (4 : Int32) ≤ nI k from nI_ge (b := 4) (by omega) (by decide)), hlk, hse]
    simp only [bd_u, nm_u]
    rw [lk_in hB]
    cases hz : sz t B (p0 + k) 0 with
    | false =>
      simp only [Bool.false_eq_true, if_false, if_true]
      have hk : k ≠ 0 := fun z => by
        have := h0 z
        rw [z, Nat.add_zero] at hz
        rw [hz] at this
        cases this
      rw [if_neg (nI_ne0 (by omega) (by omega))]
      obtain ⟨C2, a1, a2⟩ := add_q pc (by omega) (0, v) (v := nI v) rfl
      rw [a1]
      obtain ⟨M2, b1, b2⟩ := lay_q pm (by omega) (0, v) (v := 1) (w := nI v) rfl rfl (show vp_nar .byte ((1 : Int32).toInt8.toInt32) = 1 by decide +kernel)
      rw [b1]
      simp only [bE_u]
      exact ⟨C2, M2, rfl, rfl, Or.inl ⟨[(0, v)], p0 + k, WF.num hv4, by simp; omega, by omega, hp, a2, b2⟩⟩
    | true =>
      simp only [if_true]
      rw [if_neg one_ne, if_neg one_ne]
      obtain ⟨hpt, hb⟩ := sz_t.mp hz
      have hr := dig_r _ (hB hpt) hb
      have hl2 : lk t B (p0 + k) = nI (B (p0 + k)) := (lk_s hB (by omega)).mpr ⟨hpt, rfl⟩
      have e1 : (10 : Int32) * nI v + nI (B (p0 + k)) - (48 : Int32) = nI (10 * v + (B (p0 + k) - 48)) := by
        rw [show (10 : Int32) = nI 10 from rfl, show (48 : Int32) = nI 48 from rfl, pk_mul, nI_add, pk_sub (by omega)]
        congr 1
        omega
      rw [pc.2.1, ix_n (show p0 + k < 120 by omega) (by omega), nI_clamp (by omega), ((pc.1.1).on (K := [3900]) rfl 3900 (by decide)).1, (hT.2.2.2 _ hpt).2.1, pm.2.1, hl2, e1, nI_1, nI_1]
      have hv5 : 10 * v + (B (p0 + k) - 48) < 10 ^ (k + 1) := by rw [Nat.pow_succ]; omega
      exact nmb_l hT hp0 hlC hlM d (k + 1) (10 * v + (B (p0 + k) - 48)) _ _ n m (by omega) hv5 (by omega) (fun z => by omega) (adC_q pc (p0 + k + 1)) (adM_q pm (p0 + k + 1)) (by omega) (by omega)
theorem opn_o : ∀ b, b < 256 → sgB 0 b = true → sgB 1 b = false ∧ sgB 2 b = false ∧ ¬ b = 33 ∧ ¬ b = 45 ∧ ¬ b = 40 := by decide +kernel
theorem opn_2 {b : Nat} : sgB 2 b = true ↔ b = 40 ∨ b = 33 ∨ b = 45 := by simp [sgB, sgT]
theorem lk_n {t : Nat} {B : Nat → Nat} {p : Nat} (hB : p < t → B p < 256) (hz : sz t B p 1 = false) : fX12_nameOf (lk t B p) = -1 := by
  unfold lk
  by_cases hpt : p < t
  · rw [if_pos hpt]
    refine nmo_n _ (hB hpt) ?_
    unfold sz at hz
    simpa [hpt] using hz
  · rw [if_neg hpt]
    decide +kernel
/-- an operand -/
theorem opr_q {t : Nat} {B : Nat → Nat} {C1 M1 : Mem} (hT : TaB t B C1 M1) {n m op d : Nat} (hop : op ≤ 6) (hd : 1 ≤ d)
    (h0 : op < 6 → Sub t B C1 M1 (op + 1) d (fX7_rd n 0 (nI 0) (nI (op + 1))) (fX12_either (fX12_opN m))) (h5 : op < 6 → Sub t B C1 M1 (op + 1) d (fX7_rd n 1 (nI (op + 1)) 0) (fX12_opN m)) :
    Sub t B C1 M1 op d (fX7_rd (n + 2) 1 (nI op) 0) (fX12_opN (m + 1)) := by
  have ht := hT.1
  intro p lC lM C M hp hlC hlM pc pm
  have hB : p < t → B p < 256 := fun z => (hT.2.2.2 p z).1
  have hlk := look_q hT pm.1.1 hp pm.2.1
  have s0 := sees_q hT pc.1.1 hp pc.2.1 (th := 0) (by omega)
  have s1 := sees_q hT pc.1.1 hp pc.2.1 (th := 1) (by omega)
  have s2 := sees_q hT pc.1.1 hp pc.2.1 (th := 2) (by omega)
  show PO t B C1 M1 p op lC lM d (fX7_readOperand (fX7_rd (n + 1) 2) (nI op) C) (fX12_operand (fX12_either (fX12_opN m)) (fX12_opN m) M)
  unfold fX7_readOperand fX12_operand
  rw [s0, s1, s2, hlk]
  simp only [bd_u]
  cases z0 : sz t B p 0 with
  | true =>
    obtain ⟨hpt, hb⟩ := sz_t.mp z0
    obtain ⟨o1, o2, o3, o4, o5⟩ := opn_o _ (hB hpt) hb
    have z1 : sz t B p 1 = false := by unfold sz; simp [hpt, o1]
    have hn : ∀ s, s < 128 → ¬ B p = s → ¬ lk t B p = nI s := fun s hs hne e => hne ((lk_s hB hs).mp e).2
    simp only [if_true]
    rw [if_neg one_ne, lk_n hB z1, if_pos (show (-1 : Int32) < 0 by decide), if_neg (show ¬ lk t B p = (33 : Int32) from hn 33 (by omega) o3), if_neg (show ¬ lk t B p = (45 : Int32) from hn 45 (by omega) o4), if_neg (show ¬ lk t B p = (40 : Int32) from hn 40 (by omega) o5)]
    obtain ⟨C2, M2, g1, g2, g3⟩ := nmb_l hT (op := op) hpt hlC hlM 4 0 0 C M FU FU (by omega) (by omega) hp (fun _ => z0) pc pm (FU_lt (by omega)) (FU_lt (by omega))
    have g1' : fX7_readNumber C = some ((), C2) := g1
    have g2' : fX12_figure M = some ((), M2) := g2
    rw [g1', g2']
    simp only [bE_u]
    refine ⟨C2, M2, rfl, rfl, ?_⟩
    rcases g3 with ⟨l, p', w, r1, r2, r3, r4, r5⟩ | g3
    · exact Or.inl ⟨l, p', w.mono hd, r1, r2, r3, r4, r5⟩
    · exact Or.inr g3
  | false =>
    simp only [Bool.false_eq_true, if_false, if_true]
    cases z1 : sz t B p 1 with
    | true =>
      obtain ⟨hpt, hb⟩ := sz_t.mp z1
      obtain ⟨k, hk, ek⟩ := nmB_x hb
      have hl2 : fX12_nameOf (lk t B p) = nI k := by
        unfold lk
        rw [if_pos hpt, ek]
        exact nmo_y k hk
      simp only [if_true]
      rw [if_neg one_ne, hl2, if_neg (nI_pos (show k < 2 ^ 31 by omega)), pc.2.1, ix_n (show p < 120 by omega) (by omega), nI_clamp (by omega), ((pc.1.1).on (K := [3900]) rfl 3900 (by decide)).1, (hT.2.2.2 p hpt).2.1, ek]
      obtain ⟨C2, a1, a2⟩ := add_q pc (by omega) (1, k) (v := -nI (nmB k)) rfl
      obtain ⟨M2, b1, b2⟩ := lay_q pm (by omega) (1, k) (v := 2) (w := nI k) rfl rfl (show vp_nar .byte ((2 : Int32).toInt8.toInt32) = 2 by decide +kernel)
      rw [a1, b1]
      simp only [bE_u, nm_u]
      rw [a2.2.1, b2.2.1, nI_1]
      exact ⟨_, _, rfl, rfl, Or.inl ⟨[(1, k)], p + 1, (WF.nam hk).mono hd, by simp, by omega, hpt, adC_q a2 (p + 1), adM_q b2 (p + 1)⟩⟩
    | false =>
      simp only [Bool.false_eq_true, if_false, if_true]
      rw [lk_n hB z1, if_pos (show (-1 : Int32) < 0 by decide)]
      cases z2 : sz t B p 2 with
      | false =>
        have hn : ∀ s, s = 40 ∨ s = 33 ∨ s = 45 → ¬ lk t B p = nI s := fun s hs e => by
          have h2 := (lk_s hB (by omega)).mp e
          have h3 : sz t B p 2 = true := sz_t.mpr ⟨h2.1, opn_2.mpr (by rw [h2.2]; exact hs)⟩
          rw [z2] at h3
          cases h3
        simp only [Bool.false_eq_true, if_false, if_true]
        rw [if_neg (show ¬ lk t B p = (33 : Int32) from hn 33 (by omega)), if_neg (show ¬ lk t B p = (45 : Int32) from hn 45 (by omega)), if_neg (show ¬ lk t B p = (40 : Int32) from hn 40 (by omega)), pc.2.1]
        simp only [nm_u]
        obtain ⟨fz, hfz⟩ := FU_s 1 (by decide)
        obtain ⟨M2, b1, b2⟩ := wrong_q (t := t) pm hp
        obtain ⟨M3, c1, c2⟩ := layF_q b2 (by omega) (1 : Int32) (0 : Int32)
        have eM : fX12_figure M = some ((), M3) := by
          unfold fX12_figure
          rw [hfz]
          simp only [fX12_figure_l4, fX12_figure_b4]
          rw [if_neg (show ¬ (4 : Int32) ≤ 0 by decide), hlk]
          simp only [bd_u, nm_u]
          rw [lk_in hB, z0]
          simp only [Bool.false_eq_true, if_false, if_true]
          rw [b1]
          simp only [bE_u]
          rw [c1]
          simp only [bE_u]
        rw [eM]
        simp only [bE_u]
        exact ⟨_, M3, rfl, rfl, Or.inr ⟨p, lM.length + 1, hp, by omega, ftC_q pc (by omega), c2⟩⟩
      | true =>
        obtain ⟨hpt, hb⟩ := sz_t.mp z2
        have hb3 := opn_2.mp hb
        have hl2 : lk t B p = nI (B p) := (lk_s hB (by omega)).mpr ⟨hpt, rfl⟩
        simp only [if_true]
        rw [if_neg one_ne, hl2]
        by_cases h6 : op = 6
        · -- no more may be open
          subst h6
          obtain ⟨M2, b1, b2⟩ := wrong_q (t := t) pm hp
          have eO : fX12_opensOne M = some ((0 : Int32), M2) := by
            unfold fX12_opensOne
            rw [pm.2.2.2.1, if_pos (show nI 6 = (6 : Int32) from rfl), b1]
            simp only [bE_u]
          rw [if_pos (show (6 : Int32) ≤ nI 6 by decide), eO, pc.2.1]
          simp only [bE_u, nm_u, if_true]
          refine ⟨_, M2, rfl, ?_, Or.inr ⟨p, lM.length, hp, by omega, ftC_q pc (by omega), b2⟩⟩
          rcases hb3 with e | e | e
          · rw [e, if_neg (show ¬ nI 40 = (33 : Int32) by decide), if_neg (show ¬ nI 40 = (45 : Int32) by decide), if_pos (show nI 40 = (40 : Int32) from rfl)]
          · rw [e, if_pos (show nI 33 = (33 : Int32) from rfl)]
          · rw [e, if_neg (show ¬ nI 45 = (33 : Int32) by decide), if_pos (show nI 45 = (45 : Int32) from rfl)]
        · have hop6 : op < 6 := by omega
          have eO : fX12_opensOne M = some ((1 : Int32), msI (msI M 1236 0 0 (nI (op + 1))) 1234 0 0 (nI (p + 1))) := by
            unfold fX12_opensOne
            rw [pm.2.2.2.1, if_neg (show ¬ nI op = (6 : Int32) from fun z => h6 ((nI_eq (by omega) (by omega)).mp z))]
            simp only [nm_u, uI_I, uL_L, uR_R, uI_L, uI_R, uL_I, uL_R, uR_I, uR_L, Nat.reduceEqDiff, false_and, and_false, true_and, and_true, ↓reduceIte, pm.2.1, nI_1]
          have pm1 : PM M1 (p + 1) (op + 1) lM (msI (msI M 1236 0 0 (nI (op + 1))) 1234 0 0 (nI (p + 1))) := adM_q (opM_q pm (op + 1)) (p + 1)
          have pc1 : PC C1 (p + 1) lC (msI C 703 0 0 (nI (p + 1))) := adC_q pc (p + 1)
          rw [if_neg (show ¬ (6 : Int32) ≤ nI op from nI_ge (b := 6) hop6 (by decide)), eO, pc.2.1, ix_n (show p < 120 by omega) (by omega), nI_clamp (by omega), ((pc.1.1).on (K := [3900]) rfl 3900 (by decide)).1, (hT.2.2.2 p hpt).2.1, nI_1]
          have eR : fX7_rd (n + 1) 2 (nI (B p)) (nI (op + 1)) C = fX7_readOpened (fX7_rd n 0) (fun x M => fX7_rd n 1 x 0 M) (nI (B p)) (nI (op + 1)) C := rfl
          rw [eR]
          unfold fX7_readOpened
          rw [pc.2.1, nI_1]
          simp only [bE_u, nm_u, bd_u]
          rw [if_neg one_ne, if_neg one_ne]
          by_cases h40 : B p = 40
          · rw [h40, if_pos (show nI 40 = (40 : Int32) from rfl), if_neg (show ¬ nI 40 = (33 : Int32) by decide), if_neg (show ¬ nI 40 = (45 : Int32) by decide), if_pos (show nI 40 = (40 : Int32) from rfl)]
            obtain ⟨C2, M2, g1, g2, g3⟩ := h0 hop6 (p + 1) lC lM _ _ hpt (by omega) (by omega) pc1 pm1
            have g1' : fX7_rd n 0 (0 : Int32) (nI (op + 1)) (msI C 703 0 0 (nI (p + 1))) = some ((), C2) := g1
            rw [g1', g2]
            simp only [bE_u]
            rcases g3 with ⟨l, p', w, r1, r2, r3, pc', pm'⟩ | ⟨q, a, hq, ha, fc, fm⟩
            · have hB' : p' < t → B p' < 256 := fun z => (hT.2.2.2 p' z).1
              rw [pc'.2.2.1, pm'.2.2.1, if_neg m1_ng, if_neg m1_ng, if_pos (show (-1 : Int32) < 0 by decide), look_q hT pm'.1.1 r3 pm'.2.1, sees_q hT pc'.1.1 r3 pc'.2.1 (th := 3) (by omega)]
              simp only [bd_u]
              cases z3 : sz t B p' 3 with
              | true =>
                obtain ⟨hpt', hb'⟩ := sz_t.mp z3
                have e41 : B p' = 41 := by simpa [sgB, sgT] using hb'
                have hl3 : lk t B p' = nI 41 := (lk_s hB' (by omega)).mpr ⟨hpt', e41⟩
                simp only [if_true]
                rw [if_neg one_ne, hl3, if_pos (show nI 41 = (41 : Int32) from rfl), pc'.2.1, pm'.2.1]
                simp only [nm_u, uI_I, uL_L, uR_R, uI_L, uI_R, uL_I, uL_R, uR_I, uR_L, Nat.reduceEqDiff, false_and, and_false, true_and, and_true, ↓reduceIte, nI_1]
                rw [pm'.2.2.2.1, show nI (op + 1) - (1 : Int32) = nI op from nI_pred op]
                exact ⟨_, _, rfl, rfl, Or.inl ⟨l, p' + 1, w, by omega, by omega, hpt', adC_q pc' (p' + 1), opM_q (adM_q pm' (p' + 1)) op⟩⟩
              | false =>
                have hl3 : ¬ lk t B p' = (41 : Int32) := fun e => by
                  have h2 := (lk_s (s := 41) hB' (by omega)).mp e
                  have h3 : sz t B p' 3 = true := sz_t.mpr ⟨h2.1, show sgB 3 (B p') = true by rw [h2.2]; decide⟩
                  rw [z3] at h3
                  cases h3
                simp only [Bool.false_eq_true, if_false, if_true]
                rw [if_neg hl3, pc'.2.1]
                obtain ⟨M3, b1, b2⟩ := wrong_q (t := t) pm' r3
                rw [b1]
                simp only [bE_u, nm_u]
                have e1 : (lM ++ l).length = lM.length + l.length := List.length_append
                have e2 : (lC ++ l).length = lC.length + l.length := List.length_append
                exact ⟨_, M3, rfl, rfl, Or.inr ⟨p', (lM ++ l).length, r3, by omega, ftC_q pc' (by omega), b2⟩⟩
            · have hge := fm.ge hq ht
              rw [if_neg (show ¬ mgI M2 1235 0 0 < 0 from Int32.not_lt.mpr hge)]
              rcases fc.2.2 with k1 | ⟨k1, k2, k3, k4⟩
              · have hge2 : 0 ≤ mgI C2 704 0 0 := by rw [k1]; exact nI_pos' (by omega)
                rw [if_pos hge2, if_pos hge2]
                exact ⟨C2, M2, rfl, rfl, Or.inr ⟨q, a, hq, by omega, fc, fm⟩⟩
              · have hs := (fc.stop hT hq (th := 3) (by omega) (by omega))
                have hlt : ¬ 0 ≤ mgI C2 704 0 0 := by rw [k1]; exact m1_ng
                rcases hs with hs | ⟨-, hs⟩
                · exact absurd hs hlt
                · rw [if_neg hlt, hs]
                  simp only [bd_u, if_true]
                  rw [if_neg hlt, k2]
                  obtain ⟨f1, ⟨c, hc, f2⟩, -⟩ := fc
                  exact ⟨_, M2, rfl, rfl, Or.inr ⟨q, a, hq, by omega, ⟨txC_I f1 rfl (Or.inl (by decide)), ⟨c, hc, by simp only [uI_I, uL_L, uR_R, uI_L, uI_R, uL_I, uL_R, uR_I, uR_L, Nat.reduceEqDiff, false_and, and_false, true_and, and_true, ↓reduceIte]; exact f2⟩, Or.inl (by simp only [uI_I, uL_L, uR_R, uI_L, uI_R, uL_I, uL_R, uR_I, uR_L, Nat.reduceEqDiff, false_and, and_false, true_and, and_true, ↓reduceIte])⟩, fm⟩⟩
          · rw [if_neg (show ¬ nI (B p) = (40 : Int32) from fun z => h40 ((nI_eq (by omega) (by omega)).mp z))]
            obtain ⟨C2, M2, g1, g2, g3⟩ := h5 hop6 (p + 1) lC lM _ _ hpt (by omega) (by omega) pc1 pm1
            rw [g1, g2]
            simp only [bE_u, nm_u]
            have hb2 : B p = 33 ∨ B p = 45 := hb3.resolve_left h40
            have key : ∀ (c : Nat) (vC vM : Int32), vC = cI (c, 0) → vM = xM (c, 0) → (c = 2 ∨ c = 3) → PO t B C1 M1 p op lC lM d (bE (bE (fX10_add 2 vC C2) fun u M3 => some ((), M3)) fun u M3 => some ((), M3)) (bE (fX12_lay vM (0 : Int32) (msI M2 1236 0 0 (mgI M2 1236 0 0 - (1 : Int32)))) fun u M3 => some ((), M3)) := by
              intro c vC vM hvC hvM hc
              rcases g3 with ⟨l, p', w, r1, r2, r3, pc', pm'⟩ | ⟨q, a, hq, ha, fc, fm⟩
              · have e1 : (lM ++ l).length = lM.length + l.length := List.length_append
                have e2 : (lC ++ l).length = lC.length + l.length := List.length_append
                rw [pm'.2.2.2.1, show nI (op + 1) - (1 : Int32) = nI op from nI_pred op]
                obtain ⟨C3, a1, a2⟩ := add_q pc' (by omega) (c, 0) hvC
                obtain ⟨M3, b1, b2⟩ := lay_q (opM_q pm' op) (by omega) (c, 0) (w := 0) hvM (by rcases hc with rfl | rfl <;> rfl) (by rcases hc with rfl | rfl <;> decide +kernel)
                rw [a1, b1]
                simp only [bE_u]
                rw [List.append_assoc] at a2 b2
                exact ⟨C3, M3, rfl, rfl, Or.inl ⟨l ++ [(c, 0)], p', w.un hd hc, by simp; omega, by omega, r3, a2, b2⟩⟩
              · obtain ⟨C3, a1, a2⟩ := addF_q fc vC
                obtain ⟨M3, b1, b2⟩ := layF_q (opF_q fm (mgI M2 1236 0 0 - (1 : Int32))) (by omega) vM (0 : Int32)
                rw [a1, b1]
                simp only [bE_u]
                exact ⟨C3, M3, rfl, rfl, Or.inr ⟨q, a + 1, hq, by omega, a2, b2⟩⟩
            rcases hb2 with e | e
            · rw [e, if_neg (show ¬ nI 33 = (45 : Int32) by decide), if_pos (show nI 33 = (33 : Int32) from rfl), if_pos (show nI 33 = (33 : Int32) from rfl)]
              exact key 2 _ _ rfl rfl (Or.inl rfl)
            · rw [e, if_pos (show nI 45 = (45 : Int32) from rfl), if_neg (show ¬ nI 45 = (33 : Int32) by decide), if_pos (show nI 45 = (45 : Int32) from rfl), if_neg (show ¬ nI 45 = (33 : Int32) by decide)]
              exact key 3 _ _ rfl rfl (Or.inr rfl)
/-- from an operand up to the widest level -/
theorem up_q {t : Nat} {B : Nat → Nat} {C1 M1 : Mem} (hT : TaB t B C1 M1) {n op d : Nat} {o : Mem → Option (Unit × Mem)} (hd : 1 ≤ d) (h : Sub t B C1 M1 op d (fX7_rd n 1 (nI op) 0) o) : Sub t B C1 M1 op (d + 5) (fX7_rd (n + 6) 0 (nI 0) (nI op)) (fX12_either o) := by
  have h5 : Sub t B C1 M1 op d (fX7_rd (n + 1) 0 (nI 5) (nI op)) o := by
    intro p lC lM C M a1 a2 a3 a4 a5
    have g := h p lC lM C M a1 a2 a3 a4 a5
    have e : fX7_rd (n + 1) 0 (nI 5) (nI op) C = bE (fX7_rd n 1 (nI op) 0 C) fun u M => some ((), M) := by
      show fX7_readPart (fX7_rd n 0) (fun x M => fX7_rd n 1 x 0 M) (nI 5) (nI op) C = _
      unfold fX7_readPart
      rw [if_neg (show ¬ nI 5 < (5 : Int32) by decide)]
    rw [e]
    obtain ⟨C', M', g1, g2, g3⟩ := g
    rw [g1]
    simp only [bE_u]
    exact ⟨C', M', rfl, g2, g3⟩
  have h4 : Sub t B C1 M1 op (d + 1) (fX7_rd (n + 2) 0 (nI 4) (nI op)) (fX12_product o) := lev_q hT (lv := 4) (by omega) (by omega) (lm_prod o) h5 hd
  have h3 : Sub t B C1 M1 op (d + 2) (fX7_rd (n + 3) 0 (nI 3) (nI op)) (fX12_sum o) := lev_q hT (lv := 3) (by omega) (by omega) (lm_sum o) h4 (by omega)
  have h2 : Sub t B C1 M1 op (d + 3) (fX7_rd (n + 4) 0 (nI 2) (nI op)) (fX12_compared o) := cmp_q hT h3 (by omega)
  have h1 : Sub t B C1 M1 op (d + 4) (fX7_rd (n + 5) 0 (nI 1) (nI op)) (fX12_both o) := lev_q hT (lv := 1) (by omega) (by omega) (lm_both o) h2 (by omega)
  exact lev_q hT (lv := 0) (by omega) (by omega) (lm_either o) h1 (by omega)
theorem Sub.mono {t : Nat} {B : Nat → Nat} {C1 M1 : Mem} {op d e : Nat} {f g : Mem → Option (Unit × Mem)} (h : Sub t B C1 M1 op d f g) (hd : d ≤ e) : Sub t B C1 M1 op e f g := by
  intro p lC lM C M a1 a2 a3 a4 a5
  obtain ⟨C', M', g1, g2, g3⟩ := h p lC lM C M a1 a2 a3 a4 a5
  refine ⟨C', M', g1, g2, ?_⟩
  rcases g3 with ⟨l, p', w, r1, r2, r3, r4, r5⟩ | g3
  · exact Or.inl ⟨l, p', w.mono hd, r1, r2, r3, r4, r5⟩
  · exact Or.inr g3
/-- all operands, from six open ones down -/
theorem all_q {t : Nat} {B : Nat → Nat} {C1 M1 : Mem} (hT : TaB t B C1 M1) : ∀ (j op n m : Nat), op + j = 6 → 2 + 8 * j ≤ n → 1 + j ≤ m → Sub t B C1 M1 op (1 + 5 * j) (fX7_rd n 1 (nI op) 0) (fX12_opN m)
  | 0, op, n, m, ho, hn, hm => by
    obtain ⟨n, rfl⟩ : ∃ z, n = z + 2 := ⟨n - 2, by omega⟩
    obtain ⟨m, rfl⟩ : ∃ z, m = z + 1 := ⟨m - 1, by omega⟩
    exact opr_q hT (by omega) (by omega) (fun z => by omega) (fun z => by omega)
  | j + 1, op, n, m, ho, hn, hm => by
    obtain ⟨n, rfl⟩ : ∃ z, n = z + 2 := ⟨n - 2, by omega⟩
    obtain ⟨m, rfl⟩ : ∃ z, m = z + 1 := ⟨m - 1, by omega⟩
    obtain ⟨n', rfl⟩ : ∃ z, n = z + 6 := ⟨n - 6, by omega⟩
    have a := all_q hT j (op + 1) n' m (by omega) (by omega) (by omega)
    have b := all_q hT j (op + 1) (n' + 6) m (by omega) (by omega) (by omega)
    exact opr_q hT (by omega) (by omega) (fun _ => (up_q hT (by omega) a).mono (by omega)) (fun _ => b.mono (by omega))
theorem exp_q {t : Nat} {B : Nat → Nat} {C1 M1 : Mem} (hT : TaB t B C1 M1) : Sub t B C1 M1 0 36 (fX7_readPartT (0 : Int32) (0 : Int32)) fX12_eitherT := up_q hT (n := 58) (d := 31) (by omega) (all_q hT 6 0 58 8 (by omega) (by omega) (by omega))
