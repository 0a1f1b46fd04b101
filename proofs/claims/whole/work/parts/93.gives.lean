/-! what a text gives: both sides -/
theorem wo_s (x : Option Nat) (n : Nat) (i3 i4 : Int32) (M : Mem) : fX3_workOut_l9 x (n + 1) i3 i4 M = fX3_workOut_b9 x (fX3_workOut_l9 x n) i3 i4 M := rfl
theorem wo_l {u cnt : Nat} (hc : cnt ≤ 121) {fa : Nat → Int32} : ∀ (l : List (Nat × Nat)) (s s' : List Int32) (i : Nat) (C : Mem), evL fa 64 l s = some s' → s.length ≤ 64 → (∀ k, k < 7 → mgI C 3000 0 k = fa k) → StC C s → mgI C 1001 u 0 = nI cnt → i + l.length ≤ cnt → itm (mgI C 4400 u) i l →
    ∃ C', EqOff [307, 3100] C C' ∧ StC C' s' ∧ s'.length ≤ 64 ∧ ∀ n, fX3_workOut_l9 (some u) (n + l.length) (0 : Int32) (nI i) C = fX3_workOut_l9 (some u) n (0 : Int32) (nI (i + l.length)) C'
  | [], s, s', i, C, he, hs, hf, h, h1, hi, ht => by
    cases he
    exact ⟨C, EqOff.refl, h, hs, fun n => rfl⟩
  | x :: l, s, s', i, C, he, hs, hf, h, h1, hi, ht => by
    have hi' : i + (l.length + 1) ≤ cnt := by simpa using hi
    obtain ⟨s1, e1, e2, e3⟩ := evL_cons he
    obtain ⟨n1, n2, C1, g1, g2, g3⟩ := step_q h hs hf e1 e2
    have k := g3.on (K := [1001, 3000, 4400]) rfl
    obtain ⟨C', k1, k2, k3, k4⟩ := wo_l hc l s1 s' (i + 1) C1 e3 e2 (fun j hj => by rw [(k 3000 (by decide)).1]; exact hf j hj) g2 (by rw [(k 1001 (by decide)).1]; exact h1) (by omega) (by rw [(k 4400 (by decide)).1]; exact ht.2)
    refine ⟨C', g3.trans k1, k2, k3, fun n => ?_⟩
    show fX3_workOut_l9 (some u) (n + l.length + 1) (0 : Int32) (nI i) C = fX3_workOut_l9 (some u) n (0 : Int32) (nI (i + (l.length + 1))) C'
    rw [wo_s]
    unfold fX3_workOut_b9
    rw [oc_SU, h1, if_neg (nI_ge (by omega) (by omega)), ix_n (show i < 121 by omega) (by omega), nI_clamp (by omega), nm_u, if_pos (show (0 : Int32) = 0 from rfl), ht.1, if_neg n1, if_neg n2, g1, bE_u, nm_u, nI_1]
    rw [k4 n]
    congr 2
    omega
/-- what is passed over -/
theorem wp_l {u cnt : Nat} (hc : cnt ≤ 121) : ∀ (l : List (Nat × Nat)) (i : Nat) (C : Mem), (∀ x ∈ l, ¬ cI x = -59) → mgI C 1001 u 0 = nI cnt → i + l.length ≤ cnt → itm (mgI C 4400 u) i l → ∀ n, fX3_workOut_l9 (some u) (n + l.length) (1 : Int32) (nI i) C = fX3_workOut_l9 (some u) n (1 : Int32) (nI (i + l.length)) C
  | [], i, C, hx, h1, hi, ht, n => rfl
  | x :: l, i, C, hx, h1, hi, ht, n => by
    have hi' : i + (l.length + 1) ≤ cnt := by simpa using hi
    show fX3_workOut_l9 (some u) (n + l.length + 1) (1 : Int32) (nI i) C = fX3_workOut_l9 (some u) n (1 : Int32) (nI (i + (l.length + 1))) C
    rw [wo_s]
    unfold fX3_workOut_b9
    rw [oc_SU, h1, if_neg (nI_ge (by omega) (by omega)), ix_n (show i < 121 by omega) (by omega), nI_clamp (by omega), nm_u, if_neg (show ¬ (1 : Int32) = 0 by decide), ht.1, if_neg (hx x (by simp)), nm_u, nI_1]
    rw [wp_l hc l (i + 1) C (fun y hy => hx y (by simp [hy])) h1 (by omega) ht.2 n]
    congr 2
    omega
theorem ev_ok {fa : Nat → Int32} {lim : Nat} : ∀ {l : List (Nat × Nat)} {s s' : List Int32}, evL fa lim l s = some s' → ∀ x ∈ l, ¬ cI x = -59
  | [], _, _, _, x, hx => by cases hx
  | y :: l, s, s', h, x, hx => by
    obtain ⟨s1, e1, e2, e3⟩ := evL_cons h
    rcases List.mem_cons.mp hx with rfl | hx
    · obtain ⟨c, a⟩ := x
      rcases Nat.lt_or_ge c 5 with hc | hc
      · have hc5 : c = 0 ∨ c = 1 ∨ c = 2 ∨ c = 3 ∨ c = 4 := by omega
        rcases hc5 with rfl | rfl | rfl | rfl | rfl
        · simp only [ev1] at e1
          by_cases ha : a < 10000
          · intro e
            have e : nI a = -59 := e
            have e2 := congrArg Int32.toInt e
            rw [nI_toInt (by omega), show (-59 : Int32).toInt = -59 by decide] at e2
            omega
          · rw [if_neg ha] at e1
            cases e1
        · simp only [ev1] at e1
          by_cases ha : a < 7
          · exact (cI_n a ha).2.2.1
          · rw [if_neg ha] at e1
            cases e1
        · exact (show ¬ (-33 : Int32) = -59 by decide)
        · exact (show ¬ (-126 : Int32) = -59 by decide)
        · cases s with
          | nil => cases e1
          | cons v s => cases s with
            | nil => cases e1
            | cons w s =>
              simp only [ev1] at e1
              by_cases ha : a ∈ sgs
              · exact (cI_s a ha).2.2.1
              · rw [if_neg ha] at e1
                cases e1
      · obtain ⟨c, rfl⟩ : ∃ k, c = k + 5 := ⟨c - 5, by omega⟩
        simp [ev1] at e1
    · exact ev_ok e3 x hx
theorem WF.ok {l : List (Nat × Nat)} {d : Nat} (h : WF l d) : ∀ x ∈ l, ¬ cI x = -59 := by
  obtain ⟨v, hv⟩ := h (fun _ => 0) d [] (by simp)
  exact ev_ok hv
/-! the reference's stack: how high it is goes with it -/
theorem wk_l {u e : Nat} (hu : u < 3) (he : e ≤ 130) {fa : Nat → Int32} : ∀ (l : List (Nat × Nat)) (s s' : List Int32) (i : Nat) (M : Mem), evL fa 64 l s = some s' → s.length ≤ 64 → (∀ k, k < 7 → mgI M 8200 0 k = fa k) → stk (mgI M 8300 0) s → i + l.length ≤ 130 * u + e → acm (mgI M 7700 0) (mgI M 7800 0) i l →
    ∃ M', EqOff [8300] M M' ∧ stk (mgI M' 8300 0) s' ∧ ∀ n, fX12_worked_l12 (nI u) (nI e) (n + l.length) (nI s.length) (nI i) M = fX12_worked_l12 (nI u) (nI e) n (nI s'.length) (nI (i + l.length)) M'
  | [], s, s', i, M, h, hs, hf, ht, hi, hm => by
    cases h
    exact ⟨M, EqOff.refl, ht, fun n => rfl⟩
  | x :: l, s, s', i, M, h, hs, hf, ht, hi, hm => by
    have hi' : i + (l.length + 1) ≤ 130 * u + e := by simpa using hi
    obtain ⟨s1, e1, e2, e3⟩ := evL_cons h
    have H : ∃ M1, EqOff [8300] M M1 ∧ stk (mgI M1 8300 0) s1 ∧ ∀ n, fX12_worked_l12 (nI u) (nI e) (n + 1) (nI s.length) (nI i) M = fX12_worked_l12 (nI u) (nI e) n (nI s1.length) (nI (i + 1)) M1 := by
      obtain ⟨m1, m2, -⟩ := hm
      have E0 : ∀ n, fX12_worked_l12 (nI u) (nI e) (n + 1) (nI s.length) (nI i) M = fX12_worked_b12 (nI u) (nI e) (fX12_worked_l12 (nI u) (nI e) n) (nI s.length) (nI i) M := fun n => rfl
      have E1 : (130 : Int32) * nI u + nI e = nI (130 * u + e) := by rw [show (130 : Int32) = nI 130 from rfl, pk_mul, nI_add]
      have hix : i < 390 := by omega
      obtain ⟨c, a⟩ := x
      rcases Nat.lt_or_ge c 5 with hc | hc
      · have hc5 : c = 0 ∨ c = 1 ∨ c = 2 ∨ c = 3 ∨ c = 4 := by omega
        rcases hc5 with rfl | rfl | rfl | rfl | rfl
        · simp only [ev1] at e1
          by_cases ha : a < 10000
          · rw [if_pos ha] at e1
            cases e1
            have hsl : s.length < 64 := e2
            refine ⟨msI M 8300 0 s.length (nI a), EqOff.refl.I rfl, ⟨by simp only [uI_I, uL_L, uR_R, uI_L, uI_R, uL_I, uL_R, uR_I, uR_L, Nat.reduceEqDiff, false_and, and_false, true_and, and_true, ↓reduceIte], ht.cong (fun j hj => ?_)⟩, fun n => ?_⟩
            · simp only [uI_I, uL_L, uR_R, uI_L, uI_R, uL_I, uL_R, uR_I, uR_L, Nat.reduceEqDiff, false_and, and_false, true_and, and_true, ↓reduceIte]
              rw [if_neg (by omega)]
            · rw [E0]
              unfold fX12_worked_b12
              rw [E1, if_neg (nI_ge (by omega) (by omega)), ix_n hix (by omega), nI_clamp (by omega), nm_u, m1, show xM (0, a) = 1 from rfl, if_pos rfl, if_pos rfl, ix_n hix (by omega), nm_u, m2, ix_n (show s.length < 130 by omega) (by omega), nI_clamp (by omega), nm_u, nm_u, nm_u, nI_1, nI_1]
              rfl
          · rw [if_neg ha] at e1
            cases e1
        · simp only [ev1] at e1
          by_cases ha : a < 7
          · rw [if_pos ha] at e1
            cases e1
            have hsl : s.length < 64 := e2
            refine ⟨msI M 8300 0 s.length (fa a), EqOff.refl.I rfl, ⟨by simp only [uI_I, uL_L, uR_R, uI_L, uI_R, uL_I, uL_R, uR_I, uR_L, Nat.reduceEqDiff, false_and, and_false, true_and, and_true, ↓reduceIte], ht.cong (fun j hj => ?_)⟩, fun n => ?_⟩
            · simp only [uI_I, uL_L, uR_R, uI_L, uI_R, uL_I, uL_R, uR_I, uR_L, Nat.reduceEqDiff, false_and, and_false, true_and, and_true, ↓reduceIte]
              rw [if_neg (by omega)]
            · rw [E0]
              unfold fX12_worked_b12
              rw [E1, if_neg (nI_ge (by omega) (by omega)), ix_n hix (by omega), nI_clamp (by omega), nm_u, m1, show xM (1, a) = 2 from rfl, if_neg (show ¬ (2 : Int32) = 1 by decide), if_pos rfl, if_neg (show ¬ (2 : Int32) = 1 by decide), ix_n hix (by omega), m2, show yM (1, a) = nI a from rfl, ix_n ha (by omega), nm_u, nI_clamp (show a < 2 ^ 31 by omega), hf a ha, ix_n (show s.length < 130 by omega) (by omega), nI_clamp (by omega), nm_u, nm_u, nm_u, nI_1, nI_1]
              rfl
          · rw [if_neg ha] at e1
            cases e1
        · cases s with
          | nil => cases e1
          | cons v s =>
            simp only [ev1] at e1
            cases e1
            have hsl : s.length < 64 := e2
            have hq : nI (v :: s).length - (1 : Int32) = nI s.length := nI_pred _
            refine ⟨msI M 8300 0 s.length (if v = 0 then 1 else 0), EqOff.refl.I rfl, ⟨by simp only [uI_I, uL_L, uR_R, uI_L, uI_R, uL_I, uL_R, uR_I, uR_L, Nat.reduceEqDiff, false_and, and_false, true_and, and_true, ↓reduceIte], ht.2.cong (fun j hj => ?_)⟩, fun n => ?_⟩
            · simp only [uI_I, uL_L, uR_R, uI_L, uI_R, uL_I, uL_R, uR_I, uR_L, Nat.reduceEqDiff, false_and, and_false, true_and, and_true, ↓reduceIte]
              rw [if_neg (by omega)]
            · rw [E0]
              unfold fX12_worked_b12
              rw [E1, if_neg (nI_ge (by omega) (by omega)), ix_n hix (by omega), nI_clamp (by omega), nm_u, m1, show xM (2, a) = 3 from rfl, if_neg (show ¬ (3 : Int32) = 1 by decide), if_neg (show ¬ (3 : Int32) = 2 by decide), if_pos rfl, hq, ix_n (show s.length < 130 by omega) (by omega), nI_clamp (by omega), ht.1]
              by_cases hv : v = 0
              · rw [if_pos hv, if_pos hv, ix_n (show s.length < 130 by omega) (by omega), nm_u, nm_u, nI_1]
                rfl
              · rw [if_neg hv, if_neg hv, ix_n (show s.length < 130 by omega) (by omega), nm_u, nm_u, nI_1]
                rfl
        · cases s with
          | nil => cases e1
          | cons v s =>
            simp only [ev1] at e1
            cases e1
            have hsl : s.length < 64 := e2
            have hq : nI (v :: s).length - (1 : Int32) = nI s.length := nI_pred _
            refine ⟨msI M 8300 0 s.length (-v), EqOff.refl.I rfl, ⟨by simp only [uI_I, uL_L, uR_R, uI_L, uI_R, uL_I, uL_R, uR_I, uR_L, Nat.reduceEqDiff, false_and, and_false, true_and, and_true, ↓reduceIte], ht.2.cong (fun j hj => ?_)⟩, fun n => ?_⟩
            · simp only [uI_I, uL_L, uR_R, uI_L, uI_R, uL_I, uL_R, uR_I, uR_L, Nat.reduceEqDiff, false_and, and_false, true_and, and_true, ↓reduceIte]
              rw [if_neg (by omega)]
            · rw [E0]
              unfold fX12_worked_b12
              rw [E1, if_neg (nI_ge (by omega) (by omega)), ix_n hix (by omega), nI_clamp (by omega), nm_u, m1, show xM (3, a) = 4 from rfl, if_neg (show ¬ (4 : Int32) = 1 by decide), if_neg (show ¬ (4 : Int32) = 2 by decide), if_neg (show ¬ (4 : Int32) = 3 by decide), if_pos rfl, hq, ix_n (show s.length < 130 by omega) (by omega), nI_clamp (by omega), ht.1, nm_u, ix_n (show s.length < 130 by omega) (by omega), nm_u, nm_u, nI_1]
              rfl
        · cases s with
          | nil => cases e1
          | cons v s => cases s with
            | nil => cases e1
            | cons w s =>
              simp only [ev1] at e1
              by_cases ha : a ∈ sgs
              · rw [if_pos ha] at e1
                cases e1
                have hsl : s.length < 64 := e2
                have hs2 : s.length + 2 ≤ 64 := hs
                have hq : nI (v :: w :: s).length + (-1 : Int32) = nI (s.length + 1) := pk_m1 _
                have hq2 : nI (s.length + 1) - (1 : Int32) = nI s.length := nI_pred _
                obtain ⟨-, -, -, -, -, -, -, q1, q2, q3, q4⟩ := cI_s a ha
                have t1 : mgI M 8300 0 (s.length + 1) = v := ht.1
                have t2 : mgI M 8300 0 s.length = w := ht.2.1
                refine ⟨msI M 8300 0 s.length (jn a w v), EqOff.refl.I rfl, ⟨by simp only [uI_I, uL_L, uR_R, uI_L, uI_R, uL_I, uL_R, uR_I, uR_L, Nat.reduceEqDiff, false_and, and_false, true_and, and_true, ↓reduceIte], ht.2.2.cong (fun j hj => ?_)⟩, fun n => ?_⟩
                · simp only [uI_I, uL_L, uR_R, uI_L, uI_R, uL_I, uL_R, uR_I, uR_L, Nat.reduceEqDiff, false_and, and_false, true_and, and_true, ↓reduceIte]
                  rw [if_neg (by omega)]
                · rw [E0]
                  unfold fX12_worked_b12
                  rw [E1, if_neg (nI_ge (by omega) (by omega)), ix_n hix (by omega), nI_clamp (by omega), nm_u, m1, show xM (4, a) = nI a from rfl, if_neg q1, if_neg q2, if_neg q3, if_neg q4, hq, nm_u, hq2, ix_n (show s.length < 130 by omega) (by omega), ix_n (show s.length + 1 < 130 by omega) (by omega), nI_clamp (show s.length < 2 ^ 31 by omega), nI_clamp (show s.length + 1 < 2 ^ 31 by omega), t1, t2, jn_M ha, bd_u, ix_n (show s.length < 130 by omega) (by omega), nm_u, nm_u, nI_1]
                  rfl
              · rw [if_neg ha] at e1
                cases e1
      · obtain ⟨c, rfl⟩ : ∃ k, c = k + 5 := ⟨c - 5, by omega⟩
        simp [ev1] at e1
    obtain ⟨M1, g1, g2, g3⟩ := H
    have k := g1.on (K := [7700, 7800, 8200]) rfl
    obtain ⟨M', k1, k2, k3⟩ := wk_l hu he l s1 s' (i + 1) M1 e3 e2 (fun j hj => by rw [(k 8200 (by decide)).1]; exact hf j hj) g2 (by omega) (by rw [(k 7700 (by decide)).1, (k 7800 (by decide)).1]; exact hm.2.2)
    refine ⟨M', g1.trans k1, k2, fun n => ?_⟩
    rw [show n + (x :: l).length = n + l.length + 1 from rfl, g3, k3 n]
    congr 2
    simp only [List.length_cons]
    omega
theorem wkd_q {u a : Nat} (hu : u < 3) {fa : Nat → Int32} {l : List (Nat × Nat)} (hl : a + l.length ≤ 130) {v : Int32} {M : Mem} (h : evL fa 64 l [] = some [v]) (hf : ∀ k, k < 7 → mgI M 8200 0 k = fa k) (hm : acm (mgI M 7700 0) (mgI M 7800 0) (130 * u + a) l) : ∃ M', fX12_worked (nI u) (nI a) (nI (a + l.length)) M = some (v, M') ∧ EqOff [8300] M M' := by
  obtain ⟨M', g1, g2, g3⟩ := wk_l (u := u) (e := a + l.length) hu hl l [] [v] (130 * u + a) M h (by simp) hf trivial (by omega) hm
  refine ⟨M', ?_, g1⟩
  unfold fX12_worked
  rw [show (130 : Int32) = nI 130 from rfl, pk_mul, nI_add, nm_u]
  obtain ⟨m, hm⟩ : ∃ m, FU = (m + 1) + l.length := ⟨FU - 1 - l.length, by have := FU_lt (N := 1 + l.length) (by omega); omega⟩
  rw [hm, show (0 : Int32) = nI ([] : List Int32).length from rfl, g3]
  simp only [fX12_worked_l12, fX12_worked_b12]
  rw [show (130 : Int32) = nI 130 from rfl, pk_mul, nI_add, if_pos (nI_le (by omega) (by omega)), cl_0]
  rw [show mgI M' 8300 0 0 = v from g2.1]
/-! a text: its lines (test, if it has one, and what counts) -/
abbrev Tok : Type := Nat × Nat
def itC : List (List Tok × List Tok) → List Tok
  | [] => []
  | x :: L => ((if x.1 = [] then [] else x.1 ++ [(5, 0)]) ++ (x.2 ++ [(6, 0)])) ++ itC L
def acM : List (List Tok × List Tok) → List Tok
  | [] => []
  | x :: L => (x.1 ++ x.2) ++ acM L
def lnm (te le : Nat → Int32) : Nat → Nat → List (List Tok × List Tok) → Prop
  | _, _, [] => True
  | m, a, x :: L => te m = nI (a + x.1.length) ∧ le m = nI (a + x.1.length + x.2.length) ∧ lnm te le (m + 1) (a + x.1.length + x.2.length) L
def okL (L : List (List Tok × List Tok)) : Prop := ∀ x ∈ L, (x.1 = [] ∨ WF x.1 36) ∧ WF x.2 36
theorem gv_l {u cnt : Nat} (hu : u < 3) (hc : cnt ≤ 121) {fa : Nat → Int32} : ∀ (L : List (List Tok × List Tok)) (i a m : Nat) (C M : Mem), okL L → (∀ k, k < 7 → mgI C 3000 0 k = fa k) → (∀ k, k < 7 → mgI M 8200 0 k = fa k) → StC C [] → mgI C 1001 u 0 = nI cnt → i + (itC L).length = cnt → itm (mgI C 4400 u) i (itC L) → a + (acM L).length ≤ 130 → acm (mgI M 7700 0) (mgI M 7800 0) (130 * u + a) (acM L) → m + L.length ≤ 61 → mgI M 7900 0 u = nI (m + L.length) → lnm (mgI M 8000 0) (mgI M 8100 0) (61 * u + m) a L →
    ∃ v C' M', (∀ n, fX3_workOut_l9 (some u) (n + 1 + (itC L).length) (0 : Int32) (nI i) C = some (v, C')) ∧ (∀ n, fX12_gives_l7 (nI u) (n + 1 + L.length) (nI a) (nI (61 * u + m)) M = some (v, M')) ∧ EqOff [307, 3100] C C' ∧ EqOff [8300] M M'
  | [], i, a, m, C, M, hL, fC, fM, hS, h1, hi, ht, ha, hm, hl, h7, hn => by
    have hi' : i = cnt := by simpa [itC] using hi
    refine ⟨0, C, M, fun n => ?_, fun n => ?_, EqOff.refl, EqOff.refl⟩
    · show fX3_workOut_l9 (some u) (n + 1) (0 : Int32) (nI i) C = _
      rw [wo_s]
      unfold fX3_workOut_b9
      rw [oc_SU, h1, if_pos (nI_le (by omega) (by omega))]
    · show fX12_gives_l7 (nI u) (n + 1) (nI a) (nI (61 * u + m)) M = _
      simp only [fX12_gives_l7, fX12_gives_b7]
      rw [ix_n hu (by omega), nI_clamp (by omega), h7, show (61 : Int32) = nI 61 from rfl, pk_mul, nI_add, if_pos (nI_le (by simp) (by simp at hl ⊢; omega))]
  | x :: L, i, a, m, C, M, hL, fC, fM, hS, h1, hi, ht, ha, hm, hl, h7, hn => by
    obtain ⟨x1, x2⟩ := x
    obtain ⟨hx1, hx2⟩ := hL (x1, x2) (by simp)
    have hL' : okL L := fun y hy => hL y (by simp [hy])
    obtain ⟨n1, n2, n3⟩ := hn
    dsimp only at hx1 hx2 n1 n2 n3
    have hl' : m + (L.length + 1) ≤ 61 := by simpa using hl
    have ha' : a + (x1.length + x2.length + (acM L).length) ≤ 130 := by simpa [acM, Nat.add_assoc] using ha
    have hmix : 61 * u + m < 183 := by omega
    have E0 : ∀ n, fX12_gives_l7 (nI u) (n + 1) (nI a) (nI (61 * u + m)) M = fX12_gives_b7 (nI u) (fX12_gives_l7 (nI u) n) (nI a) (nI (61 * u + m)) M := fun n => rfl
    have E1 : (61 : Int32) * nI u + mgI M 7900 0 u = nI (61 * u + (m + (L.length + 1))) := by
      rw [h7, show (61 : Int32) = nI 61 from rfl, pk_mul, nI_add]
      rfl
    obtain ⟨ac1, ac2⟩ := acm_app.mp hm
    obtain ⟨ac1, ac3⟩ := acm_app.mp ac1
    obtain ⟨v2, hv2⟩ := hx2 fa 64 [] (by simp)
    rcases hx1 with rfl | hw
    · -- no test
      have hit : i + (x2.length + 1 + (itC L).length) = cnt := by
        have := hi
        simp [itC] at this
        omega
      have ht1 : itm (mgI C 4400 u) i ((x2 ++ [(6, 0)]) ++ itC L) := by simpa [itC] using ht
      obtain ⟨ht2, -⟩ := itm_app.mp ht1
      obtain ⟨ht3, ht4⟩ := itm_app.mp ht2
      obtain ⟨C1, g1, g2, g3, g4⟩ := wo_l (u := u) hc x2 [] [v2] i C hv2 (by simp) fC hS h1 (by omega) ht3
      have k := g1.on (K := [1001, 4400]) rfl
      obtain ⟨C2, p1, p2, p3⟩ := pull_q g2 g3
      obtain ⟨M1, r1, r2⟩ := wkd_q (a := a) hu (l := x2) (by omega) hv2 fM (by simpa using ac3)
      refine ⟨v2, C2, M1, fun n => ?_, fun n => ?_, g1.trans p3, r2⟩
      · obtain ⟨q, hq⟩ : ∃ q, n + 1 + (itC (([], x2) :: L)).length = (q + 1) + x2.length := ⟨n + 1 + (itC L).length, by simp [itC]; omega⟩
        rw [hq, g4]
        rw [wo_s]
        unfold fX3_workOut_b9
        rw [oc_SU, (k 1001 (by decide)).1, h1, if_neg (nI_ge (by omega) (by omega)), ix_n (show i + x2.length < 121 by omega) (by omega), nI_clamp (by omega), nm_u, if_pos (show (0 : Int32) = 0 from rfl), (k 4400 (by decide)).1, ht4.1, show cI (6, 0) = -59 from rfl, if_pos rfl, p1, bE_u]
      · show fX12_gives_l7 (nI u) (n + 1 + L.length + 1) (nI a) (nI (61 * u + m)) M = _
        rw [E0]
        unfold fX12_gives_b7
        rw [ix_n hu (by omega), nI_clamp (show u < 2 ^ 31 by omega), E1, if_neg (nI_ge (by omega) (by omega)), ix_n hmix (by omega), nI_clamp (show 61 * u + m < 2 ^ 31 by omega), n1, n2, if_pos (by simp), ix_n hmix (by omega), ix_n hmix (by omega)]
        simp only [List.length_nil, Nat.add_zero]
        rw [r1, bE_u]
    · have hne : x1 ≠ [] := hw.ne
      have hpos : 0 < x1.length := hw.pos
      have hit : i + (x1.length + 1 + (x2.length + 1) + (itC L).length) = cnt := by
        have : (itC ((x1, x2) :: L)).length = x1.length + 1 + (x2.length + 1) + (itC L).length := by simp [itC, hne]; omega
        omega
      have ht1 : itm (mgI C 4400 u) i (((x1 ++ [(5, 0)]) ++ (x2 ++ [(6, 0)])) ++ itC L) := by simpa [itC, hne] using ht
      obtain ⟨ht2, htL⟩ := itm_app.mp ht1
      obtain ⟨ht3, ht4⟩ := itm_app.mp ht2
      obtain ⟨hta, htb⟩ := itm_app.mp ht3
      obtain ⟨htc, htd⟩ := itm_app.mp ht4
      simp only [List.length_append, List.length_singleton] at htc htd htL
      obtain ⟨v1, hv1⟩ := hw fa 64 [] (by simp)
      obtain ⟨C1, g1, g2, g3, g4⟩ := wo_l (u := u) hc x1 [] [v1] i C hv1 (by simp) fC hS h1 (by omega) hta
      have k := g1.on (K := [1001, 4400, 3000]) rfl
      obtain ⟨C2, p1, p2, p3⟩ := pull_q g2 g3
      have kk := (g1.trans p3).on (K := [1001, 4400, 3000]) rfl
      obtain ⟨M1, r1, r2⟩ := wkd_q (a := a) hu (l := x1) (by omega) hv1 fM ac1
      have j := r2.on (K := [7700, 7800, 7900, 8000, 8100, 8200]) rfl
      have S1 : ∀ q, fX3_workOut_l9 (some u) (q + 1 + x1.length) (0 : Int32) (nI i) C = (if v1 = 0 then fX3_workOut_l9 (some u) q (1 : Int32) (nI (i + x1.length + 1)) C2 else fX3_workOut_l9 (some u) q (0 : Int32) (nI (i + x1.length + 1)) C2) := fun q => by
        rw [g4]
        rw [wo_s]
        unfold fX3_workOut_b9
        rw [oc_SU, (k 1001 (by decide)).1, h1, if_neg (nI_ge (by omega) (by omega)), ix_n (show i + x1.length < 121 by omega) (by omega), nI_clamp (by omega), nm_u, if_pos (show (0 : Int32) = 0 from rfl), (k 4400 (by decide)).1, htb.1, show cI (5, 0) = -63 from rfl, if_neg (show ¬ (-63 : Int32) = -59 by decide), if_pos rfl, p1, bE_u, nm_u, nm_u, nI_1]
      have T1 : ∀ n, fX12_gives_l7 (nI u) (n + 1) (nI a) (nI (61 * u + m)) M = (if v1 = 0 then fX12_gives_l7 (nI u) n (nI (a + x1.length + x2.length)) (nI (61 * u + (m + 1))) M1 else (bE (fX12_worked (nI u) (nI (a + x1.length)) (nI (a + x1.length + x2.length)) M1) fun b15 M16 => some (b15, M16))) := fun n => by
        rw [E0]
        unfold fX12_gives_b7
        rw [ix_n hu (by omega), nI_clamp (show u < 2 ^ 31 by omega), E1, if_neg (nI_ge (by omega) (by omega)), ix_n hmix (by omega), nI_clamp (show 61 * u + m < 2 ^ 31 by omega), n1, if_neg (fun z => by have := (nI_eq (by omega) (by omega)).mp z; omega), ix_n hmix (by omega), r1, bE_u, ix_n hmix (by omega), ix_n hmix (by omega), ix_n hmix (by omega), (j 8000 (by decide)).1, (j 8100 (by decide)).1, n1, n2, nm_u, nm_u, nI_1]
        rfl
      by_cases hv : v1 = 0
      · obtain ⟨v, C', M', s1, s2, s3, s4⟩ := gv_l hu hc (fa := fa) L (i + x1.length + 1 + x2.length + 1) (a + x1.length + x2.length) (m + 1) C2 M1 hL' (fun q hq => by rw [(kk 3000 (by decide)).1]; exact fC q hq) (fun q hq => by rw [(j 8200 (by decide)).1]; exact fM q hq) p2 (by rw [(kk 1001 (by decide)).1]; exact h1) (by omega) (by
          rw [(kk 4400 (by decide)).1]
          rw [show i + x1.length + 1 + x2.length + 1 = i + (x1.length + 1 + (x2.length + 1)) by omega]
          exact htL) (by omega) (by
          rw [(j 7700 (by decide)).1, (j 7800 (by decide)).1]
          have := ac2
          simp only [List.length_append] at this
          rw [show 130 * u + (a + x1.length + x2.length) = 130 * u + a + (x1.length + x2.length) by omega]
          exact this) (by omega) (by rw [(j 7900 (by decide)).1, h7]; congr 1; simp only [List.length_cons]; omega) (by
          rw [(j 8000 (by decide)).1, (j 8100 (by decide)).1]
          exact n3)
        refine ⟨v, C', M', fun n => ?_, fun n => ?_, (g1.trans p3).trans s3, r2.trans s4⟩
        · obtain ⟨q, hq⟩ : ∃ q, n + 1 + (itC ((x1, x2) :: L)).length = ((((n + 1 + (itC L).length) + 1) + x2.length) + 1) + x1.length ∧ q = 0 := ⟨0, by simp [itC, hne]; omega, rfl⟩
          rw [hq.1, S1, if_pos hv, wp_l hc x2 (i + x1.length + 1) C2 hx2.ok (by rw [(kk 1001 (by decide)).1]; exact h1) (by omega) (by
            rw [(kk 4400 (by decide)).1]
            rw [show i + x1.length + 1 = i + (x1.length + 1) by omega]
            exact htc)]
          rw [wo_s]
          unfold fX3_workOut_b9
          rw [oc_SU, (kk 1001 (by decide)).1, h1, if_neg (nI_ge (by omega) (by omega)), ix_n (show i + x1.length + 1 + x2.length < 121 by omega) (by omega), nI_clamp (by omega), nm_u, if_neg (show ¬ (1 : Int32) = 0 by decide), (kk 4400 (by decide)).1, show i + x1.length + 1 + x2.length = i + (x1.length + 1) + x2.length by omega, htd.1, show cI (6, 0) = -59 from rfl, if_pos rfl, nm_u, nI_1, show i + (x1.length + 1) + x2.length + 1 = i + x1.length + 1 + x2.length + 1 by omega]
          exact s1 n
        · rw [show n + 1 + ((x1, x2) :: L).length = (n + 1 + L.length) + 1 from rfl, T1, if_pos hv]
          exact s2 n
      · obtain ⟨C3, e1, e2, e3, e4⟩ := wo_l (u := u) hc x2 [] [v2] (i + x1.length + 1) C2 hv2 (by simp) (fun q hq => by rw [(kk 3000 (by decide)).1]; exact fC q hq) p2 (by rw [(kk 1001 (by decide)).1]; exact h1) (by omega) (by
          rw [(kk 4400 (by decide)).1]
          rw [show i + x1.length + 1 = i + (x1.length + 1) by omega]
          exact htc)
        have kc := (EqOff.trans (g1.trans p3) e1).on (K := [1001, 4400, 3000]) rfl
        obtain ⟨C4, o1, o2, o3⟩ := pull_q e2 e3
        obtain ⟨M2, w1, w2⟩ := wkd_q (a := a + x1.length) hu (l := x2) (by omega) hv2 (M := M1) (fun q hq => by rw [(j 8200 (by decide)).1]; exact fM q hq) (by
          rw [(j 7700 (by decide)).1, (j 7800 (by decide)).1]
          rw [show 130 * u + (a + x1.length) = 130 * u + a + x1.length by omega]
          exact ac3)
        refine ⟨v2, C4, M2, fun n => ?_, fun n => ?_, ((g1.trans p3).trans e1).trans o3, r2.trans w2⟩
        · obtain ⟨q, hq⟩ : ∃ q, n + 1 + (itC ((x1, x2) :: L)).length = ((((n + 1 + (itC L).length) + 1) + x2.length) + 1) + x1.length ∧ q = 0 := ⟨0, by simp [itC, hne]; omega, rfl⟩
          rw [hq.1, S1, if_neg hv, e4]
          rw [wo_s]
          unfold fX3_workOut_b9
          rw [oc_SU, (kc 1001 (by decide)).1, h1, if_neg (nI_ge (by omega) (by omega)), ix_n (show i + x1.length + 1 + x2.length < 121 by omega) (by omega), nI_clamp (by omega), nm_u, if_pos (show (0 : Int32) = 0 from rfl), (kc 4400 (by decide)).1, show i + x1.length + 1 + x2.length = i + (x1.length + 1) + x2.length by omega, htd.1, show cI (6, 0) = -59 from rfl, if_pos rfl, o1, bE_u]
        · rw [show n + 1 + ((x1, x2) :: L).length = (n + 1 + L.length) + 1 from rfl, T1, if_neg hv, w1, bE_u]
/-- both texts give the same -/
theorem tx_eq {u : Nat} (hu : u < 2) {L : List (List Tok × List Tok)} (hL : okL L) {cl lm : Int32} {ci ac wi te le : Nat → Int32} (h1 : cl = nI (itC L).length) (hc : (itC L).length ≤ 121) (h2 : itm ci 0 (itC L)) (h3 : lm = nI L.length) (hl : L.length ≤ 61) (ha : (acM L).length ≤ 130) (h4 : acm ac wi (130 * u) (acM L)) (h5 : lnm te le (61 * u) 0 L) (h0 : L ≠ []) : TextEq u cl ci lm ac wi te le := by
  have i0 : 0 < (itC L).length := by
    cases L with
    | nil => exact absurd rfl h0
    | cons x L => simp [itC]; omega
  have l0 : 0 < L.length := List.length_pos_iff.mpr h0
  refine ⟨?_, fun C M g1 g2 g3 g4 g5 g6 => ?_⟩
  · rw [h1, h3]
    exact ⟨fun z => absurd z (nI_ne0 i0 (by omega)), fun z => absurd z (nI_ne0 l0 (by omega))⟩
  · have hS : StC (msI C 307 0 0 (0 : Int32)) [] := ⟨by simp only [uI_I, uL_L, uR_R, uI_L, uI_R, uL_I, uL_R, uR_I, uR_L, Nat.reduceEqDiff, false_and, and_false, true_and, and_true, ↓reduceIte]; rfl, trivial⟩
    have e0 : EqOff [307, 3100] C (msI C 307 0 0 (0 : Int32)) := EqOff.refl.I rfl
    have k := e0.on (K := [1001, 3000, 4400]) rfl
    have hreg : lnm (mgI M 8000 0) (mgI M 8100 0) (61 * u) 0 L := by
      have gen : ∀ (L : List (List Tok × List Tok)) (m a : Nat), 61 * u ≤ m → m + L.length ≤ 61 * u + 61 → lnm te le m a L → lnm (mgI M 8000 0) (mgI M 8100 0) m a L := by
        intro L
        induction L with
        | nil => intro m a _ _ _; trivial
        | cons x L ih =>
          intro m a hm hm2 h
          have hm3 : m + (L.length + 1) ≤ 61 * u + 61 := by simpa using hm2
          have q := g5 m hm (by omega)
          exact ⟨q.1.trans h.1, q.2.trans h.2.1, ih (m + 1) _ (by omega) (by omega) h.2.2⟩
      exact gen L (61 * u) 0 (Nat.le_refl _) (by omega) h5
    obtain ⟨v, C', M', s1, s2, s3, s4⟩ := gv_l (u := u) (cnt := (itC L).length) (by omega) hc (fa := fun q => mgI M 8200 0 q) L 0 0 0 (msI C 307 0 0 (0 : Int32)) M hL (fun q hq => by rw [(k 3000 (by decide)).1]; exact g6 q hq) (fun q hq => rfl) hS (by rw [(k 1001 (by decide)).1, g1, h1]) (by omega) (by
        rw [(k 4400 (by decide)).1]
        exact h2.cong (fun j _ => g2 (0 + j))) (by omega) (h4.cong (fun j hj => g4 (130 * u + j) (by omega) (by omega))) (by omega) (by rw [g3, h3, Nat.zero_add]) hreg
    refine ⟨v, C', M', ?_, ?_, e0.trans s3, s4⟩
    · unfold fX3_workOut
      rw [nm_u]
      obtain ⟨q, hq⟩ : ∃ q, FU = q + 1 + (itC L).length := ⟨FU - 1 - (itC L).length, by have := FU_lt (N := 1 + (itC L).length) (by omega); omega⟩
      rw [hq]
      exact s1 q
    · unfold fX12_gives
      rw [show (61 : Int32) = nI 61 from rfl, pk_mul, nm_u]
      obtain ⟨q, hq⟩ : ∃ q, FU = q + 1 + L.length := ⟨FU - 1 - L.length, by have := FU_lt (N := 1 + L.length) (by omega); omega⟩
      rw [hq]
      exact s2 q
theorem tx_0 {u : Nat} (hu : u < 2) {ci ac wi te le : Nat → Int32} : TextEq u 0 ci 0 ac wi te le := by
  refine ⟨Iff.rfl.trans Iff.rfl, fun C M g1 g2 g3 g4 g5 g6 => ⟨0, msI C 307 0 0 (0 : Int32), M, ?_, ?_, EqOff.refl.I rfl, EqOff.refl⟩⟩
  · unfold fX3_workOut
    rw [nm_u]
    obtain ⟨q, hq⟩ : ∃ q, FU = q + 1 := ⟨FU - 1, by have := FU_lt (N := 1) (by omega); omega⟩
    rw [hq]
    rw [wo_s]
    unfold fX3_workOut_b9
    rw [oc_SU, show mgI (msI C 307 0 0 (0 : Int32)) 1001 u 0 = 0 by simp only [uI_I, uL_L, uR_R, uI_L, uI_R, uL_I, uL_R, uR_I, uR_L, Nat.reduceEqDiff, false_and, and_false, true_and, and_true, ↓reduceIte]; exact g1, if_pos (show (0 : Int32) ≤ 0 by decide)]
  · unfold fX12_gives
    rw [show (61 : Int32) = nI 61 from rfl, pk_mul, nm_u]
    obtain ⟨q, hq⟩ : ∃ q, FU = q + 1 := ⟨FU - 1, by have := FU_lt (N := 1) (by omega); omega⟩
    rw [hq]
    simp only [fX12_gives_l7, fX12_gives_b7]
    rw [ix_n (show u < 3 by omega) (by omega), nI_clamp (by omega), g3, show (61 : Int32) = nI 61 from rfl, pk_mul, show (0 : Int32) = nI 0 from rfl, nI_add, if_pos (nI_le (by omega) (by omega))]
