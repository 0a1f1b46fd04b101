/-! the longest way -/
def Pth (M : Mem) (nL : Nat) : Nat → Nat → Nat → Prop
  | 0, n, s => n = s
  | k + 1, n, s => ∃ l m, l < nL ∧ mgI M 5900 0 l = nI n ∧ mgI M 6300 0 l = 0 ∧ mgI M 6000 0 l = nI m ∧ m < n ∧ Pth M nL k m s
theorem Pth_le {M : Mem} {nL : Nat} : ∀ {k n s : Nat}, Pth M nL k n s → k + s ≤ n
  | 0, n, s, h => by
    have : n = s := h
    omega
  | k + 1, n, s, h => by
    obtain ⟨l, m, -, -, -, -, h1, h2⟩ := h
    have := Pth_le h2
    omega
theorem Pth_r {M : Mem} {nL : Nat} : ∀ {k n s : Nat}, Pth M nL (k + 1) n s ↔ ∃ l t, l < nL ∧ mgI M 6000 0 l = nI s ∧ mgI M 6300 0 l = 0 ∧ mgI M 5900 0 l = nI t ∧ s < t ∧ Pth M nL k n t
  | 0, n, s => by
    constructor
    · rintro ⟨l, m, h1, h2, h3, h4, h5, h6⟩
      have e : m = s := h6
      subst e
      exact ⟨l, n, h1, h4, h3, h2, h5, rfl⟩
    · rintro ⟨l, t, h1, h2, h3, h4, h5, h6⟩
      have e : n = t := h6
      subst e
      exact ⟨l, s, h1, h4, h3, h2, h5, rfl⟩
  | k + 1, n, s => by
    constructor
    · rintro ⟨l, m, h1, h2, h3, h4, h5, h6⟩
      obtain ⟨l2, t, a1, a2, a3, a4, a5, a6⟩ := Pth_r.mp h6
      exact ⟨l2, t, a1, a2, a3, a4, a5, l, m, h1, h2, h3, h4, h5, a6⟩
    · rintro ⟨l2, t, a1, a2, a3, a4, a5, l, m, h1, h2, h3, h4, h5, a6⟩
      exact ⟨l, m, h1, h2, h3, h4, h5, Pth_r.mpr ⟨l2, t, a1, a2, a3, a4, a5, a6⟩⟩
theorem bl_pth {C M : Mem} {nS nL : Nat} (h : Sim C M nS nL) : ∀ (n : Nat), n < nS → ∀ s, (hB (bl C n) s = true ↔ ∃ k, Pth M nL (k + 1) n s) := by
  have hb : nS ≤ 64 ∧ nL ≤ 200 := sm_b1 h
  intro n
  induction n using Nat.strongRecOn with
  | _ n ih =>
    intro hn s
    rw [bl_h h hn s]
    constructor
    · rintro ⟨l, hl, h1, h2, b, hb', h3, h4⟩
      obtain ⟨b', hbs, h5⟩ := ln_n h hl hn h1
      have e : b = b' := (nI_eq (by omega) (by omega)).mp (h3.symm.trans h5)
      subst e
      rcases h4 with h4 | h4
      · exact ⟨0, l, b, hl, h1, h2, h3, hbs, h4.symm⟩
      · obtain ⟨k, hk⟩ := (ih b hbs (by omega) s).mp h4
        exact ⟨k + 1, l, b, hl, h1, h2, h3, hbs, hk⟩
    · rintro ⟨k, l, m, h1, h2, h3, h4, h5, h6⟩
      refine ⟨l, h1, h2, h3, m, by omega, h4, ?_⟩
      cases k with
      | zero => exact Or.inl h6.symm
      | succ k => exact Or.inr ((ih m h5 (by omega) s).mpr ⟨k, h6⟩)
def IsP (M : Mem) (nL n s v : Nat) : Prop := (v = 0 ∨ Pth M nL v n s) ∧ ∀ k, Pth M nL k n s → k ≤ v
/-- what the component says of one line -/
def vlP (C M : Mem) (s : Nat) (pv : Nat → Nat) (l : Nat) : Nat := if mgI M 6000 0 l = nI s then 1 else if hB (bl C (mgI M 6000 0 l).toNatClampNeg) s = true then pv (mgI M 6000 0 l).toNatClampNeg + 1 else 0
theorem dns_mx {lo dr : Nat → Int32} {n : Nat} {vl : Nat → Nat} : ∀ (N x : Nat), x ≤ dns lo n (fun l x => if dr l = 0 then max x (vl l) else x) N x ∧ (∀ l, l < N → lo l = nI n → dr l = 0 → vl l ≤ dns lo n (fun l x => if dr l = 0 then max x (vl l) else x) N x) ∧
    (dns lo n (fun l x => if dr l = 0 then max x (vl l) else x) N x = x ∨ ∃ l, l < N ∧ lo l = nI n ∧ dr l = 0 ∧ dns lo n (fun l x => if dr l = 0 then max x (vl l) else x) N x = vl l)
  | 0, x => ⟨Nat.le_refl _, fun l hl => absurd hl (Nat.not_lt_zero l), Or.inl rfl⟩
  | N + 1, x => by
    by_cases h : lo N = nI n
    · rw [dns_y h]
      by_cases h2 : dr N = 0
      · rw [if_pos h2]
        obtain ⟨i1, i2, i3⟩ := dns_mx (lo := lo) (dr := dr) (n := n) (vl := vl) N (max x (vl N))
        have hx : x ≤ max x (vl N) := Nat.le_max_left _ _
        have hv : vl N ≤ max x (vl N) := Nat.le_max_right _ _
        refine ⟨Nat.le_trans hx i1, fun l hl e1 e2 => ?_, ?_⟩
        · by_cases el : l = N
          · rw [el]; exact Nat.le_trans hv i1
          · exact i2 l (by omega) e1 e2
        · rcases i3 with i3 | ⟨l, l1, l2, l3, l4⟩
          · by_cases hm : x ≤ vl N
            · exact Or.inr ⟨N, Nat.lt_succ_self N, h, h2, by rw [i3]; exact Nat.max_eq_right hm⟩
            · exact Or.inl (by rw [i3]; exact Nat.max_eq_left (by omega))
          · exact Or.inr ⟨l, by omega, l2, l3, l4⟩
      · rw [if_neg h2]
        obtain ⟨i1, i2, i3⟩ := dns_mx (lo := lo) (dr := dr) (n := n) (vl := vl) N x
        refine ⟨i1, fun l hl e1 e2 => ?_, i3.imp id (fun ⟨l, l1, l2⟩ => ⟨l, by omega, l2⟩)⟩
        by_cases el : l = N
        · rw [el] at e2; exact absurd e2 h2
        · exact i2 l (by omega) e1 e2
    · rw [dns_n h]
      obtain ⟨i1, i2, i3⟩ := dns_mx (lo := lo) (dr := dr) (n := n) (vl := vl) N x
      refine ⟨i1, fun l hl e1 e2 => ?_, i3.imp id (fun ⟨l, l1, l2⟩ => ⟨l, by omega, l2⟩)⟩
      by_cases el : l = N
      · rw [el] at e1; exact absurd e1 h
      · exact i2 l (by omega) e1 e2
theorem lw_q {C M : Mem} {nS nL : Nat} (h : Sim C M nS nL) {s n : Nat} (hs : s < n) (hn : n < nS) (C1 : Mem) (hE : EqOff [3400] C C1) (hp : ∀ b, s < b → b < n → ∃ v, mgI C1 3400 0 b = nI v ∧ IsP M nL b s v) : ∃ v, v < 64 ∧ fX5_longestWay (some n) (nI s) C1 = some (nI v) ∧ IsP M nL n s v := by
  have hb : nS ≤ 64 ∧ nL ≤ 200 := sm_b1 h
  have g := hE.on (K := [813, 401, 402, 405, 3200, 815]) rfl
  unfold fX5_longestWay
  simp only [oc_SU, nm_u]
  rw [(g 813 (by decide)).2.2, sm_h1 h n hn]
  generalize hpv : (fun b => (mgI C1 3400 0 b).toNatClampNeg) = pv
  have hpb : ∀ b, s < b → b < n → mgI C1 3400 0 b = nI (pv b) ∧ pv b < 64 ∧ IsP M nL b s (pv b) := fun b h1 h2 => by
    obtain ⟨v, e, hv⟩ := hp b h1 h2
    have hv64 : v < 64 := by
      rcases hv.1 with z | z
      · omega
      · have := Pth_le z; omega
    have : pv b = v := by rw [← hpv]; show (mgI C1 3400 0 b).toNatClampNeg = v; rw [e, nI_clamp (by omega)]
    rw [this]
    exact ⟨e, hv64, hv⟩
  have hvl : ∀ l, l < nL → mgI M 5900 0 l = nI n → vlP C M s pv l ≤ 64 := fun l hl e => by
    obtain ⟨b, hbn, e3⟩ := ln_n h hl hn e
    unfold vlP
    rw [e3, nI_clamp (by omega)]
    split
    · omega
    · split
      · rename_i z
        have := bl_lt h b (by omega) s z
        have := (hpb b this hbn).2.1
        omega
      · omega
  have hl := lpL (fun m o (x : Nat) => fX5_longestWay_l8 C1 (nI s) m (nI x) o) (mgI M 5900 0) n nL (fun x => x ≤ 64) (fun l x => if mgI M 6300 0 l = 0 then max x (vlP C M s pv l) else x) (fun x => some (nI x))
    (fun m x _ => by simp only [fX5_longestWay_l8, fX5_longestWay_b8, oc_NU])
    (fun m l x hl e hx => by
      have hv := hvl l hl e
      refine ⟨?_, by
        show (if mgI M 6300 0 l = 0 then max x (vlP C M s pv l) else x) ≤ 64
        split
        · exact Nat.max_le.mpr ⟨hx, hv⟩
        · exact hx⟩
      simp only [fX5_longestWay_l8, fX5_longestWay_b8, oc_SU, nm_u]
      rw [(g 405 (by decide)).1, (g 401 (by decide)).1, (g 402 (by decide)).2.2, (g 3200 (by decide)).2.2, (g 815 (by decide)).2.1, sm_l5 h l hl, sm_l1 h l hl, sm_h2 h l n hl hn e]
      by_cases e2 : mgI M 6300 0 l = 0
      · simp only [if_pos e2]
        obtain ⟨b, hbn, e3⟩ := ln_n h hl hn e
        have ev : vlP C M s pv l = if nI b = nI s then 1 else if hB (bl C b) s = true then pv b + 1 else 0 := by
          unfold vlP
          rw [e3, nI_clamp (by omega)]
        rw [ev, e3]
        by_cases e4 : nI b = nI s
        · rw [if_pos e4, if_pos e4]
          by_cases hx1 : x < 1
          · rw [if_pos (show nI x < 1 from nI_lt (b := 1) hx1 (by decide)), Nat.max_eq_right (by omega)]
            rfl
          · rw [if_neg (show ¬ nI x < 1 from nI_nlt (b := 1) (by omega) (by omega)), Nat.max_eq_left (by omega)]
        · rw [if_neg e4, if_neg e4]
          simp only [ix_n (show b < 64 by omega) (show 64 < 2 ^ 31 by omega), nI_clamp (show b < 2 ^ 31 by omega), sm_r1 h b (show b < nS by omega), oc_SU]
          rw [show mgL C 815 b 0 = bl C b from rfl]
          by_cases e5 : hB (bl C b) s = true
          · rw [if_pos e5, if_neg (fun z => by rw [isIn_0 _ (by omega)] at z; rw [e5] at z; cases z)]
            obtain ⟨p1, p2, -⟩ := hpb b (bl_lt h b (by omega) s e5) hbn
            rw [p1, nI_1]
            by_cases hx1 : x < pv b + 1
            · rw [if_pos (nI_lt hx1 (by omega)), Nat.max_eq_right (by omega)]
            · rw [if_neg (nI_nlt (by omega) (by omega)), Nat.max_eq_left (by omega)]
          · rw [if_neg e5, if_pos ((isIn_0 _ (by omega)).mpr (by simpa using e5)), Nat.max_eq_left (Nat.zero_le _)]
      · simp only [if_neg e2]) nL FU 0 (Nat.le_refl _) (FU_lt (by omega)) (by omega)
  obtain ⟨d1, d2, d3⟩ := dns_mx (lo := mgI M 5900 0) (dr := mgI M 6300 0) (n := n) (vl := vlP C M s pv) nL 0
  generalize dns (mgI M 5900 0) n (fun l x => if mgI M 6300 0 l = 0 then max x (vlP C M s pv l) else x) nL 0 = r at hl d1 d2 d3
  have hP : IsP M nL n s r := by
    refine ⟨?_, fun k hk => ?_⟩
    · rcases d3 with d3 | ⟨l, l1, l2, l3, l4⟩
      · exact Or.inl d3
      · obtain ⟨b, hbn, e3⟩ := ln_n h l1 hn l2
        unfold vlP at l4
        rw [e3, nI_clamp (by omega)] at l4
        by_cases e4 : nI b = nI s
        · rw [if_pos e4] at l4
          have eb : b = s := (nI_eq (by omega) (by omega)).mp e4
          rw [l4]
          exact Or.inr ⟨l, b, l1, l2, l3, e3, hbn, eb⟩
        · rw [if_neg e4] at l4
          by_cases e5 : hB (bl C b) s = true
          · rw [if_pos e5] at l4
            obtain ⟨p1, p2, p3⟩ := hpb b (bl_lt h b (by omega) s e5) hbn
            rw [l4]
            refine Or.inr ⟨l, b, l1, l2, l3, e3, hbn, ?_⟩
            rcases p3.1 with z | z
            · obtain ⟨k, hk⟩ := (bl_pth h b (by omega) s).mp e5
              have := p3.2 _ hk
              omega
            · exact z
          · rw [if_neg e5] at l4
            exact Or.inl l4
    · cases k with
      | zero =>
        have : n = s := hk
        omega
      | succ k =>
        obtain ⟨l, m, l1, l2, l3, l4, l5, l6⟩ := hk
        have hv := d2 l l1 l2 l3
        unfold vlP at hv
        rw [l4, nI_clamp (by omega)] at hv
        by_cases e4 : m = s
        · subst e4
          rw [if_pos rfl] at hv
          have := Pth_le l6
          omega
        · rw [if_neg (fun z => e4 ((nI_eq (by omega) (by omega)).mp z))] at hv
          have hk0 : 0 < k := by
            cases k with
            | zero => exact absurd l6 e4
            | succ k => omega
          have hin : hB (bl C m) s = true := (bl_pth h m (by omega) s).mpr ⟨k - 1, by rw [show k - 1 + 1 = k by omega]; exact l6⟩
          rw [if_pos hin] at hv
          obtain ⟨p1, p2, p3⟩ := hpb m (bl_lt h m (by omega) s hin) l5
          have := p3.2 k l6
          omega
  have hr64 : r < 64 := by
    rcases hP.1 with z | z
    · omega
    · have := Pth_le z; omega
  exact ⟨r, hr64, hl, hP⟩
/-- of the reference: the longest way to o -/
theorem fa_q {C M M1 : Mem} {nS nL : Nat} (h : Sim C M nS nL) (hS : Std C M M1 nS nL) : ∀ (d o : Nat), nS ≤ o + d → o < nS → ∀ v, v < 64 → mgI M1 6600 0 o = nI v → (∃ n, n < nS ∧ Pth M nL v n o) ∧ ∀ n k, n < nS → Pth M nL k n o → k ≤ v := by
  have hb : nS ≤ 64 ∧ nL ≤ 200 := sm_b1 h
  intro d
  induction d with
  | zero => intro o h1 h2; omega
  | succ d ih =>
    intro o h1 ho v hv ev
    obtain ⟨v', b1, b2, b3⟩ := hS.2.2.2 o ho
    have evv : v' = v := (nI_eq (by omega) (by omega)).mp (b2.symm.trans ev)
    subst evv
    refine ⟨?_, fun n k hn hk => ?_⟩
    · rcases b3.1 with z | ⟨j, t, u, a1, a2, a3, a4, a5, -, a7, a8, a9⟩
      · rw [z]; exact ⟨o, ho, rfl⟩
      · have hlt : o < t := by
          obtain ⟨b, c1, c2⟩ := ln_n h a1 a4 a5
          have : o = b := (nI_eq (by omega) (by omega)).mp (a2.symm.trans c2)
          omega
        obtain ⟨⟨n, n1, n2⟩, -⟩ := ih t (by omega) a4 u a7 a8
        rw [a9]
        exact ⟨n, n1, Pth_r.mpr ⟨j, t, a1, a2, a3, a5, hlt, n2⟩⟩
    · cases k with
      | zero => exact Nat.zero_le _
      | succ k =>
        obtain ⟨l, t, l1, l2, l3, l4, l5, l6⟩ := Pth_r.mp hk
        have htn : t < nS := by have := Pth_le l6; omega
        obtain ⟨u, u1, u2, -⟩ := hS.2.2.2 t htn
        have := (ih t (by omega) htn u (by omega) u2).2 n k hn l6
        have := b3.2 (u + 1) ⟨l, t, u, l1, l2, l3, htn, l4, trivial, by omega, u2, rfl⟩
        omega
theorem fr34 {C C' : Mem} (h : EqOff [3400] C C') : FrC C C' := FrC.of (h.wide (by decide))
theorem far_q {C M M1 : Mem} {nS nL : Nat} (h : Sim C M nS nL) (hS : Std C M M1 nS nL) {s : Nat} (hs : s < nS) : ∃ C1, fX5_far (some s) C = some (mgI M1 6600 0 s, C1) ∧ EqOff [3400] C C1 := by
  have hb : nS ≤ 64 ∧ nL ≤ 200 := sm_b1 h
  obtain ⟨v, v1, v2, -⟩ := hS.2.2.2 s hs
  obtain ⟨⟨n0, n1, n2⟩, n3⟩ := fa_q h hS nS s (by omega) hs v (by omega) v2
  unfold fX5_far
  simp only [oc_SU, nm_u]
  rw [sm_s0 h s hs, nI_1, v2]
  have H := lpR (fun n i (x : Nat × Mem) => fX5_far_l9 s n (nI x.1) (nI i) x.2) (fun r => r.1 = nI v ∧ EqOff [3400] C r.2) nS (fun i x => s < i ∧ x.1 < 64 ∧ EqOff [3400] C x.2 ∧ (∀ n, s < n → n < i → ∃ w, mgI x.2 3400 0 n = nI w ∧ IsP M nL n s w ∧ w ≤ x.1) ∧ (x.1 = 0 ∨ ∃ n, n < nS ∧ Pth M nL x.1 n s)) (fun n x hI => ?_) (fun n i x hi hI k => ?_) FU (s + 1) (0, C) (by omega) ⟨Nat.lt_succ_self s, show (0 : Nat) < 64 by omega, EqOff.refl, fun n h1 h2 => by omega, Or.inl rfl⟩ (by have := FU_lt (N := 1000) (by omega); omega)
  · obtain ⟨r, e, h1, h2⟩ := H
    refine ⟨r.2, ?_, h2⟩
    rw [← h1]
    exact e
  · obtain ⟨i0, i1, i2, i3, i4⟩ := hI
    have g := i2.on (K := [502]) rfl
    simp only [fX5_far_l9, fX5_far_b9]
    rw [(g 502 (by decide)).1, (sm_c1 h).1, if_pos (nI_le (Nat.le_refl _) (by omega))]
    refine Rt_s ⟨?_, i2⟩
    have : x.1 = v := by
      have a : x.1 ≤ v := by
        rcases i4 with z | ⟨n, z1, z2⟩
        · omega
        · exact n3 n _ z1 z2
      have b : v ≤ x.1 := by
        rcases Nat.eq_zero_or_pos v with z | z
        · omega
        · have hsn : s < n0 := by have := Pth_le n2; omega
          obtain ⟨w, -, w2, w3⟩ := i3 n0 hsn n1
          have := w2.2 v n2
          omega
      omega
    rw [this]
  · obtain ⟨i0, i1, i2, i3, i4⟩ := hI
    have g := i2.on (K := [502, 3200, 815, 800]) rfl
    simp only [fX5_far_l9, fX5_far_b9]
    rw [(g 502 (by decide)).1, (sm_c1 h).1, if_neg (nI_ge hi (by omega))]
    simp only [nm_u, ix_n (show i < 64 by omega) (show 64 < 2 ^ 31 by omega), nI_clamp (show i < 2 ^ 31 by omega), (g 3200 (by decide)).2.2, sm_r1 h i hi, oc_SU, (g 815 (by decide)).2.1, (g 800 (by decide)).1, sm_s0 h s hs, nI_1, uI_I, uL_L, uR_R, uI_L, uI_R, uL_I, uL_R, uR_I, uR_L, Nat.reduceEqDiff, false_and, and_false, true_and, and_true, ↓reduceIte]
    rw [show mgL C 815 i 0 = bl C i from rfl]
    have nxt : ∀ w, w < 64 → IsP M nL i s w → Rt (fX5_far_l9 s n (if nI x.1 < nI w then nI w else nI x.1) (nI (i + 1)) (msI x.2 3400 0 i (nI w))) (fun r => r.1 = nI v ∧ EqOff [3400] C r.2) := fun w hw hP => by
      have hsc : ∀ t, mgI (msI x.2 3400 0 i (nI w)) 3400 0 t = if t = i then nI w else mgI x.2 3400 0 t := fun t => by simp only [uI_I, uL_L, uR_R, uI_L, uI_R, uL_I, uL_R, uR_I, uR_L, Nat.reduceEqDiff, false_and, and_false, true_and, and_true, ↓reduceIte]
      have hkk : ∀ y, y < 64 → x.1 ≤ y → w ≤ y → (y = x.1 ∨ y = w) → Rt (fX5_far_l9 s n (nI y) (nI (i + 1)) (msI x.2 3400 0 i (nI w))) (fun r => r.1 = nI v ∧ EqOff [3400] C r.2) := fun y y1 y2 y3 y4 => by
        refine k (y, msI x.2 3400 0 i (nI w)) ⟨by omega, y1, i2.I rfl, fun m m1 m2 => ?_, ?_⟩
        · rw [hsc]
          by_cases e : m = i
          · rw [if_pos e, e]; exact ⟨w, rfl, hP, y3⟩
          · rw [if_neg e]
            obtain ⟨w', a1, a2, a3⟩ := i3 m m1 (by omega)
            exact ⟨w', a1, a2, by show w' ≤ y; omega⟩
        · rcases y4 with y4 | y4
          · show y = 0 ∨ ∃ n, n < nS ∧ Pth M nL y n s
            rw [y4]; exact i4
          · show y = 0 ∨ ∃ n, n < nS ∧ Pth M nL y n s
            rw [y4]
            exact hP.1.imp id (fun z => ⟨i, hi, z⟩)
      by_cases e : x.1 < w
      · rw [if_pos (nI_lt e (by omega))]
        exact hkk w hw (by omega) (Nat.le_refl _) (Or.inr rfl)
      · rw [if_neg (nI_nlt (by omega) (by omega))]
        exact hkk x.1 i1 (Nat.le_refl _) (by omega) (Or.inl rfl)
    by_cases e : hB (bl C i) s = true
    · rw [if_neg (fun z => by rw [isIn_0 _ (by omega)] at z; rw [e] at z; cases z)]
      obtain ⟨w, w1, w2, w3⟩ := lw_q h i0 hi x.2 i2 (fun b b1 b2 => by
        obtain ⟨w, a1, a2, a3⟩ := i3 b b1 b2
        exact ⟨w, a1, a2⟩)
      rw [w2]
      simp only [bd_u]
      exact nxt w w1 w3
    · rw [if_pos ((isIn_0 _ (by omega)).mpr (by simpa using e))]
      refine nxt 0 (by omega) ⟨Or.inl rfl, fun k hk => ?_⟩
      cases k with
      | zero => exact Nat.zero_le _
      | succ k => exact absurd ((bl_pth h i hi s).mpr ⟨k, hk⟩) e
theorem lo_q {C M : Mem} {nS nL : Nat} (h : Sim C M nS nL) {s : Nat} (hs : s < nS) : fX12_linesOf (nI s) M = some (nI (ctU (fun l => decide (mgI M 5900 0 l = nI s)) nL)) := by
  have hb : nS ≤ 64 ∧ nL ≤ 200 := sm_b1 h
  unfold fX12_linesOf
  refine lpT (fun n i (x : Int32) => fX12_linesOf_l4 M (nI s) n x (nI i)) nL (fun i => nI (ctU (fun l => decide (mgI M 5900 0 l = nI s)) i)) _ (fun n => ?_) (fun n i hi => ?_) FU 0 (Nat.zero_le _) (FU_lt (by omega))
  · simp only [fX12_linesOf_l4, fX12_linesOf_b4]
    rw [(sm_c2 h).2, if_pos (nI_le (Nat.le_refl _) (by omega))]
  · simp only [fX12_linesOf_l4, fX12_linesOf_b4]
    rw [(sm_c2 h).2, if_neg (nI_ge hi (by omega))]
    simp only [nm_u, ix_n (show i < 200 by omega) (show 200 < 2 ^ 31 by omega), nI_clamp (show i < 2 ^ 31 by omega), nI_1]
    show _ = fX12_linesOf_l4 M (nI s) n (nI (ctU (fun l => decide (mgI M 5900 0 l = nI s)) i + (if decide (mgI M 5900 0 i = nI s) = true then 1 else 0))) (nI (i + 1))
    by_cases e : mgI M 5900 0 i = nI s
    · rw [if_pos e, if_pos (by simpa using e)]
    · rw [if_neg e, if_neg (by simpa using e), show nI (ctU (fun l => decide (mgI M 5900 0 l = nI s)) i) + (0 : Int32) = nI (ctU (fun l => decide (mgI M 5900 0 l = nI s)) i + 0) from nI_add _ 0]
theorem qs_ofStone {C M : Mem} {nS nL : Nat} (h : Sim C M nS nL) (a1 a2 : Int32) : QA nS nL (fX11_ofStone a1 a2 C) (fX12_ofStone a1 a2 M) := by
  unfold fX11_ofStone fX12_ofStone
  rcases st_c h a1 with ⟨s, hs, hb, rfl, e1, e2⟩ | ⟨e1, e2⟩
  · rw [e1, e2]
    simp only [nm_u, bd_u, oc_SU, ix_n (show s < 64 by omega) (show 64 < 2 ^ 31 by omega), nI_clamp (show s < 2 ^ 31 by omega)]
    rw [if_neg one_ne]
    by_cases h0 : a2 = 0
    · rw [if_pos h0, if_pos h0, kn_C h hs]
      obtain ⟨M1, m1, m2⟩ := kn_M h hs
      rw [m1]
      exact QA_fr h rfl rfl FrC.refl (frS m2)
    rw [if_neg h0, if_neg h0]
    by_cases h0 : a2 = 1
    · rw [if_pos h0, if_pos h0, sm_sM h s hs]
      exact QA_same h rfl rfl
    rw [if_neg h0, if_neg h0]
    by_cases h0 : a2 = 2
    · rw [if_pos h0, if_pos h0]
      unfold fX11_countsNow
      simp only [oc_SU]
      rw [sm_s0 h s hs]
      obtain ⟨C', M', w1, w2, w3, w4, -, w5, w6⟩ := w1_q h hs 0 0
      rw [w1, w2]
      simp only [bE_u]
      rw [(w3.on (K := [800]) rfl 800 (by decide)).1, sm_s0 h s hs]
      simp only [ix_n (show s < 64 by omega) (show 64 < 2 ^ 31 by omega), nI_clamp (show s < 2 ^ 31 by omega), bE_u]
      rw [w5]
      exact QA_fr h rfl rfl (frW w3) (frF w4)
    rw [if_neg h0, if_neg h0]
    by_cases h0 : a2 = 3
    · rw [if_pos h0, if_pos h0, lo_q h hs, sm_h3 h s hs]
      exact QA_same h rfl rfl
    rw [if_neg h0, if_neg h0]
    by_cases h0 : a2 = 4
    · rw [if_pos h0, if_pos h0, sm_sI h s hs]
      exact QA_same h rfl rfl
    rw [if_neg h0, if_neg h0]
    by_cases h0 : a2 = 5
    · rw [if_pos h0, if_pos h0, sm_sW h s hs]
      exact QA_same h rfl rfl
    rw [if_neg h0, if_neg h0]
    by_cases h0 : a2 = 6
    · rw [if_pos h0, if_pos h0, sm_sH h s hs]
      exact QA_same h rfl rfl
    rw [if_neg h0, if_neg h0]
    obtain ⟨M1, m1, m2⟩ := fs_q h
    by_cases h0 : a2 = 7
    · rw [if_pos h0, if_pos h0, m1]
      obtain ⟨C1, c1, c2⟩ := far_q h m2 hs
      rw [c1]
      exact QA_fr h rfl rfl (fr34 c2) (frS m2)
    rw [if_neg h0, if_neg h0]
    by_cases h0 : a2 = 8
    · rw [if_pos h0, if_pos h0, m1, sm_s0 h s hs, ab_C h m2 hs]
      simp only [bE_u, bd_u]
      rw [pop_q]
      exact QA_fr h rfl rfl FrC.refl (frS m2)
    rw [if_neg h0, if_neg h0]
    exact QA_same h rfl rfl
  · rw [e1, e2]
    exact QA_same h rfl rfl
