/-! tell: the first ten stills, all their sets -/
def gt (q : Nat → Bool) : Nat → List Nat
  | 0 => []
  | i + 1 => if (gt q i).length < 10 ∧ q i = true then gt q i ++ [i] else gt q i
theorem gt_10 (q : Nat → Bool) : ∀ i, (gt q i).length ≤ 10
  | 0 => Nat.zero_le _
  | i + 1 => by
    have ih := gt_10 q i
    unfold gt
    split
    · rename_i e; rw [List.length_append]; simp only [List.length_cons, List.length_nil]; omega
    · exact ih
theorem gt_lt (q : Nat → Bool) : ∀ i x, x ∈ gt q i → x < i
  | 0, x, h => absurd h (by simp [gt])
  | i + 1, x, h => by
    unfold gt at h
    split at h
    · rw [List.mem_append] at h
      rcases h with h | h
      · have := gt_lt q i x h; omega
      · simp at h; omega
    · have := gt_lt q i x h; omega
theorem gt_full {q : Nat → Bool} {i : Nat} (h : 10 ≤ (gt q i).length) : ∀ d, gt q (i + d) = gt q i
  | 0 => rfl
  | d + 1 => by
    have ih := gt_full h d
    show (if (gt q (i + d)).length < 10 ∧ q (i + d) = true then gt q (i + d) ++ [i + d] else gt q (i + d)) = _
    rw [ih, if_neg (fun z => by omega)]
def tO (a : Nat → Int64) (l : List Nat) (m : Nat) : Nat → Int64
  | 0 => 0
  | j + 1 => if m.testBit j = true then tO a l m j ||| a (l.getD j 0) else tO a l m j
def tS (w : Nat → Int32) (l : List Nat) (m : Nat) : Nat → Int32
  | 0 => 0
  | j + 1 => if m.testBit j = true then tS w l m j + w (l.getD j 0) else tS w l m j
theorem t_cong {a : Nat → Int64} {w : Nat → Int32} {l l' : List Nat} {m m' : Nat} : ∀ k, (∀ j, j < k → m.testBit j = m'.testBit j ∧ l.getD j 0 = l'.getD j 0) → tO a l m k = tO a l' m' k ∧ tS w l m k = tS w l' m' k
  | 0, _ => ⟨rfl, rfl⟩
  | k + 1, h => by
    obtain ⟨i1, i2⟩ := t_cong (a := a) (w := w) k (fun j hj => h j (by omega))
    obtain ⟨h1, h2⟩ := h k (by omega)
    constructor
    · show (if m.testBit k = true then tO a l m k ||| a (l.getD k 0) else tO a l m k) = (if m'.testBit k = true then tO a l' m' k ||| a (l'.getD k 0) else tO a l' m' k)
      rw [h1, h2, i1]
    · show (if m.testBit k = true then tS w l m k + w (l.getD k 0) else tS w l m k) = (if m'.testBit k = true then tS w l' m' k + w (l'.getD k 0) else tS w l' m' k)
      rw [h1, h2, i2]
theorem gD_app {l : List Nat} {x j : Nat} (hj : j < l.length) : (l ++ [x]).getD j 0 = l.getD j 0 := by
  rw [List.getD_eq_getElem?_getD, List.getD_eq_getElem?_getD, List.getElem?_append_left hj]
theorem gD_end {l : List Nat} {x : Nat} : (l ++ [x]).getD l.length 0 = x := by
  rw [List.getD_eq_getElem?_getD, List.getElem?_append_right (Nat.le_refl _)]
  simp
theorem t_lo {a : Nat → Int64} {w : Nat → Int32} {l : List Nat} {x m : Nat} (hm : m < 2 ^ l.length) : tO a (l ++ [x]) m (l.length + 1) = tO a l m l.length ∧ tS w (l ++ [x]) m (l.length + 1) = tS w l m l.length := by
  have hb : ¬ m.testBit l.length = true := by rw [Nat.testBit_lt_two_pow hm]; decide
  obtain ⟨i1, i2⟩ := t_cong (a := a) (w := w) (l := l ++ [x]) (l' := l) (m := m) (m' := m) l.length (fun j hj => ⟨rfl, gD_app hj⟩)
  exact ⟨(if_neg hb).trans i1, (if_neg hb).trans i2⟩
theorem t_hi {a : Nat → Int64} {w : Nat → Int32} {l : List Nat} {x m : Nat} (hm : m < 2 ^ l.length) : tO a (l ++ [x]) (2 ^ l.length + m) (l.length + 1) = tO a l m l.length ||| a x ∧ tS w (l ++ [x]) (2 ^ l.length + m) (l.length + 1) = tS w l m l.length + w x := by
  have hb : (2 ^ l.length + m).testBit l.length = true := by rw [Nat.testBit_two_pow_add_eq, Nat.testBit_lt_two_pow hm]; rfl
  obtain ⟨i1, i2⟩ := t_cong (a := a) (w := w) (l := l ++ [x]) (l' := l) (m := 2 ^ l.length + m) (m' := m) l.length (fun j hj => ⟨Nat.testBit_two_pow_add_gt hj m, gD_app hj⟩)
  constructor
  · refine (if_pos hb).trans ?_
    rw [i1, gD_end]
  · refine (if_pos hb).trans ?_
    rw [i2, gD_end]
def tSt (a : Nat → Int64) (w : Nat → Int32) (l : List Nat) (z : Mem) : Prop := ∀ m, m < 2 ^ l.length → mgL z 2800 0 m = tO a l m l.length ∧ mgI z 2900 0 m = tS w l m l.length
def aV (M5 : Mem) (x : Nat) : Int64 := mgL M5 6500 0 x ||| fX11_bit (nI x)
def sQ2 (C M : Mem) (i : Nat) : Bool := !decide (sB C M i = 0)
set_option maxHeartbeats 1000000 in
theorem gs_in {C M M5 : Mem} {nS nL : Nat} (h : Sim C M nS nL) {s : Nat} (hs : s < nS) {l : List Nat} (hl : l.length < 10) (k3 : Int32 → Int32 → Mem → Option (Int32 × Mem)) (P : Int32 × Mem → Prop) (z0 : Mem) (hz0 : EqOff [2800, 2900] C z0) (ht : tSt (aV M5) (mgI M 5200 0) l z0) (kk : ∀ z1, EqOff [2800, 2900] C z1 → tSt (aV M5) (mgI M 5200 0) (l ++ [s]) z1 → Rt (k3 (nI (2 ^ (l.length + 1))) (nI (s + 1)) z1) P) : Rt (fX3_gatherSets_l77 (nI (2 ^ l.length)) (nI s) k3 (aV M5 s) (some s) FU (0 : Int32) z0) P := by
  have hp : 2 ^ l.length ≤ 512 := Nat.pow_le_pow_right (n := 2) (by omega) (show l.length ≤ 9 by omega)
  refine lpR (fun m k (z : Mem) => fX3_gatherSets_l77 (nI (2 ^ l.length)) (nI s) k3 (aV M5 s) (some s) m (nI k) z) P (2 ^ l.length) (fun k z => EqOff [2800, 2900] C z ∧ tSt (aV M5) (mgI M 5200 0) l z ∧ ∀ m, m < k → mgL z 2800 0 (2 ^ l.length + m) = tO (aV M5) l m l.length ||| aV M5 s ∧ mgI z 2900 0 (2 ^ l.length + m) = tS (mgI M 5200 0) l m l.length + mgI M 5200 0 s) (fun m z hI => ?_) (fun m k z hk hI kx => ?_) FU 0 z0 (Nat.zero_le _) ⟨hz0, ht, fun m hm => absurd hm (Nat.not_lt_zero m)⟩ (by have := FU_lt (N := 1000) (by omega); omega)
  · obtain ⟨g1, g2, g3⟩ := hI
    simp only [fX3_gatherSets_l77, fX3_gatherSets_b77, nm_u]
    rw [if_pos (nI_le (Nat.le_refl _) (by omega)), nI_1, show nI (2 ^ l.length) * (2 : Int32) = nI (2 ^ (l.length + 1)) by rw [show (2 : Int32) = nI 2 from rfl, pk_mul, Nat.pow_succ]]
    refine kk z g1 (fun m hm => ?_)
    rw [List.length_append] at hm ⊢
    simp only [List.length_cons, List.length_nil] at hm ⊢
    rw [Nat.pow_succ] at hm
    rcases Nat.lt_or_ge m (2 ^ l.length) with h1 | h1
    · obtain ⟨t1, t2⟩ := t_lo (a := aV M5) (w := mgI M 5200 0) (x := s) h1
      obtain ⟨u1, u2⟩ := g2 m h1
      exact ⟨u1.trans t1.symm, u2.trans t2.symm⟩
    · obtain ⟨d, rfl⟩ : ∃ d, m = 2 ^ l.length + d := ⟨m - 2 ^ l.length, by omega⟩
      obtain ⟨t1, t2⟩ := t_hi (a := aV M5) (w := mgI M 5200 0) (l := l) (x := s) (m := d) (by omega)
      obtain ⟨u1, u2⟩ := g3 d (by omega)
      exact ⟨u1.trans t1.symm, u2.trans t2.symm⟩
  · obtain ⟨g1, g2, g3⟩ := hI
    obtain ⟨u1, u2⟩ := g2 k hk
    have hsA : mgI z 803 s 0 = mgI M 5200 0 s := by rw [(g1.on (K := [803]) rfl 803 (by decide)).1]; exact sm_sA h s hs
    simp only [fX3_gatherSets_l77, fX3_gatherSets_b77, nm_u]
    rw [if_neg (nI_ge hk (by omega)), nI_add]
    simp only [ix_n (show k < 1024 by omega) (show 1024 < 2 ^ 31 by omega), nI_clamp (show k < 2 ^ 31 by omega), ix_n (show 2 ^ l.length + k < 1024 by omega) (show 1024 < 2 ^ 31 by omega), nI_clamp (show 2 ^ l.length + k < 2 ^ 31 by omega), oc_SU, nI_1, u1]
    rw [uI_L, uI_L, u2, hsA]
    refine kx _ ⟨(g1.L rfl).I rfl, fun m hm => ?_, fun m hm => ?_⟩
    · have hne : ¬ m = 2 ^ l.length + k := by omega
      simp only [uI_I, uL_L, uR_R, uI_L, uI_R, uL_I, uL_R, uR_I, uR_L, Nat.reduceEqDiff, false_and, and_false, true_and, and_true, ↓reduceIte, if_neg hne]
      exact g2 m hm
    · simp only [uI_I, uL_L, uR_R, uI_L, uI_R, uL_I, uL_R, uR_I, uR_L, Nat.reduceEqDiff, false_and, and_false, true_and, and_true, ↓reduceIte]
      by_cases e : m = k
      · subst e; rw [if_pos rfl, if_pos rfl]; exact ⟨rfl, rfl⟩
      · have hne : ¬ 2 ^ l.length + m = 2 ^ l.length + k := by omega
        rw [if_neg hne, if_neg hne]
        exact g3 m (by omega)
