/-! fewest first, then the least -/
def pc (n : Nat) : Nat := ctU n.testBit 32
theorem pc_le (n : Nat) : pc n ≤ 32 := ctU_le _ _
theorem pc_k {n k : Nat} (h : n < 2 ^ k) (hk : k ≤ 32) : pc n ≤ k := by
  unfold pc
  rw [ctU_ext hk (fun j h1 _ => Nat.testBit_lt_two_pow (Nat.lt_of_lt_of_le h (Nat.pow_le_pow_right (by omega) h1)))]
  exact ctU_le _ _
theorem pc_1 {n : Nat} (h : n < 2 ^ 32) (h0 : 1 ≤ n) : 1 ≤ pc n := by
  apply Classical.byContradiction
  intro z
  have z0 : pc n = 0 := by omega
  obtain ⟨i, hi⟩ := Nat.exists_testBit_of_ne_zero (x := n) (by omega)
  have hi32 : i < 32 := by
    apply Classical.byContradiction
    intro w
    rw [Nat.testBit_lt_two_pow (Nat.lt_of_lt_of_le h (Nat.pow_le_pow_right (by omega) (Nat.le_of_not_lt w)))] at hi
    exact absurd hi (by decide)
  have h1 := ct_out (p := n.testBit) (q := fun j => n.testBit j && !decide (j = i)) hi (fun j => rfl) hi32
  unfold pc at z0
  omega
theorem pop_pc {n : Nat} (h : n < 2 ^ 31) : fJ6_bitCount_0f7a4 (nI n) = nI (pc n) := popI (by omega)
theorem bts_pc {n : Nat} (h : n < 2 ^ 31) : fX12_bitsOf (nI n).toInt64 = some (nI (pc n)) := by
  rw [nI_lN h, bitsOf_q]
  congr 2
  rw [ctU_cong (q := n.testBit) (fun k _ => hB_lN (by omega) k), ctU_ext (a := 32) (b := 64) (by omega) (fun j h1 _ => Nat.testBit_lt_two_pow (Nat.lt_of_lt_of_le (show n < 2 ^ 32 by omega) (Nat.pow_le_pow_right (by omega) h1)))]
  rfl
def bst (G : Nat → Bool) : Nat → Option Nat
  | 0 => none
  | n + 1 => if n ≠ 0 ∧ G n = true ∧ (∀ b, bst G n = some b → pc n < pc b) then some n else bst G n
theorem bst_n {G : Nat → Bool} : ∀ {n : Nat}, bst G n = none → ∀ m, 1 ≤ m → m < n → ¬ G m = true
  | 0, _, m, _, h => absurd h (by omega)
  | n + 1, e, m, h1, h2 => by
    unfold bst at e
    split at e
    · exact absurd e (by simp)
    · rename_i h3
      rcases Nat.lt_or_ge m n with h4 | h4
      · exact bst_n e m h1 h4
      · have : m = n := by omega
        subst this
        intro g
        exact h3 ⟨by omega, g, fun b hb => by rw [e] at hb; exact absurd hb (by simp)⟩
theorem bst_s {G : Nat → Bool} : ∀ {n b : Nat}, bst G n = some b → 1 ≤ b ∧ b < n ∧ G b = true ∧ ∀ m, 1 ≤ m → m < n → G m = true → pc b < pc m ∨ (pc b = pc m ∧ b ≤ m)
  | 0, b, e => absurd e (by simp [bst])
  | n + 1, b, e => by
    unfold bst at e
    split at e
    · rename_i h3
      have : n = b := Option.some.inj e
      subst this
      refine ⟨by omega, by omega, h3.2.1, fun m m1 m2 m3 => ?_⟩
      rcases Nat.lt_or_ge m n with h4 | h4
      · cases ho : bst G n with
        | none => exact absurd m3 (bst_n ho m m1 h4)
        | some c =>
          have hc := h3.2.2 c ho
          obtain ⟨-, -, -, c4⟩ := bst_s ho
          rcases c4 m m1 h4 m3 with c5 | ⟨c5, -⟩
          · exact Or.inl (by omega)
          · exact Or.inl (by omega)
      · exact Or.inr ⟨by rw [show m = n by omega], h4⟩
    · rename_i h3
      obtain ⟨c1, c2, c3, c4⟩ := bst_s e
      refine ⟨c1, by omega, c3, fun m m1 m2 m3 => ?_⟩
      rcases Nat.lt_or_ge m n with h4 | h4
      · exact c4 m m1 h4 m3
      · have : m = n := by omega
        subst this
        rcases Nat.lt_or_ge (pc m) (pc b) with h5 | h5
        · exact absurd ⟨by omega, m3, fun d hd => by rw [e] at hd; rw [← Option.some.inj hd]; exact h5⟩ h3
        · rcases Nat.lt_or_eq_of_le h5 with h6 | h6
          · exact Or.inl h6
          · exact Or.inr ⟨h6, by omega⟩
def hG (C : Mem) (s : Nat) (l : List Nat) (m : Nat) : Bool := !decide (YT C s (oT l m l.length) = YT C s 0)
theorem hG_t {C : Mem} {s : Nat} {l : List Nat} {m : Nat} : hG C s l m = true ↔ ¬ YT C s (oT l m l.length) = YT C s 0 := by
  unfold hG
  rw [Bool.not_eq_true', decide_eq_false_iff_not]
/-- the reference's choice -/
theorem hu_M {C M M9 : Mem} {nS nL : Nat} (h : Sim C M nS nL) (h9 : Sim C M9 nS nL) {s : Nat} (hs : s < nS) {l : List Nat} (hl : l.length ≤ 8) (hg : gAt l (mgI M9 7500 0)) :
    ∃ M', fX12_findHung_l84 (nI l.length) (nI s) (YT C s 0) FU (-1 : Int32) (1 : Int32) M9 = some ((match bst (hG C s l) (2 ^ l.length) with | none => (-2 : Int64) | some b => oT l b l.length), M') ∧ EqOff [6700, 6800, 6900] M9 M' := by
  have hp : 2 ^ l.length ≤ 256 := Nat.pow_le_pow_right (n := 2) (by omega) hl
  have hp1 : 1 ≤ 2 ^ l.length := Nat.one_le_two_pow
  have hp2 : ∀ k, (1 : Int32) <<< (nI l.length &&& 31) ≤ nI k ↔ nI (2 ^ l.length) ≤ nI k := fun k => by rw [pw_q _ (by omega)]
  have H := lpR (fun m k (z : Int32 × Mem) => fX12_findHung_l84 (nI l.length) (nI s) (YT C s 0) m z.1 (nI k) z.2) (fun r => r.1 = (match bst (hG C s l) (2 ^ l.length) with | none => (-2 : Int64) | some b => oT l b l.length) ∧ EqOff [6700, 6800, 6900] M9 r.2) (2 ^ l.length) (fun k z => z.1 = (match bst (hG C s l) k with | none => (-1 : Int32) | some b => nI b) ∧ EqOff [6700, 6800, 6900] M9 z.2 ∧ 1 ≤ k) (fun m z hI => ?_) (fun m k z hk hI kx => ?_) FU 1 (-1, M9) hp1 ⟨by simp [bst], EqOff.refl, Nat.le_refl _⟩ (by have := FU_lt (N := 1000) (by omega); omega)
  · obtain ⟨⟨r1, r2⟩, e, g1, g2⟩ := H
    dsimp only at g1 g2
    subst g1
    exact ⟨r2, e, g2⟩
  · obtain ⟨z1, z2⟩ := z
    obtain ⟨g1, g2, gk⟩ := hI
    dsimp only at g1 g2
    simp only [fX12_findHung_l84, fX12_findHung_b84]
    rw [if_pos ((hp2 _).mpr (nI_le (Nat.le_refl _) (by omega))), g1]
    have hg2 : gAt l (mgI z2 7500 0) := by rw [(g2.on (K := [7500]) rfl 7500 (by decide)).1]; exact hg
    cases hbs : bst (hG C s l) (2 ^ l.length) with
    | none =>
      simp only
      rw [if_neg (show ¬ (0 : Int32) ≤ -1 by decide)]
      exact Rt_s ⟨rfl, g2⟩
    | some b =>
      obtain ⟨b1, b2, -⟩ := bst_s hbs
      simp only
      rw [if_pos (nn0 (n := b) (by omega)), so_q hl hg2 b2]
      simp only [bd_u]
      exact Rt_s ⟨rfl, g2⟩
  · obtain ⟨z1, z2⟩ := z
    obtain ⟨g1, g2, gk⟩ := hI
    dsimp only at g1 g2
    have hg2 : gAt l (mgI z2 7500 0) := by rw [(g2.on (K := [7500]) rfl 7500 (by decide)).1]; exact hg
    have hz : Sim C z2 nS nL := h9.fr FrC.refl (frF g2)
    have hk0 : k ≠ 0 := by omega
    have hun : bst (hG C s l) (k + 1) = if k ≠ 0 ∧ hG C s l k = true ∧ (∀ b, bst (hG C s l) k = some b → pc k < pc b) then some k else bst (hG C s l) k := rfl
    simp only [fX12_findHung_l84, fX12_findHung_b84, nm_u]
    rw [if_neg (fun w => nI_ge hk (by omega) ((hp2 _).mp w)), so_q hl hg2 hk, g1, nI_1]
    simp only [bd_u]
    obtain ⟨C', M', w1, w2, w3, w4, w5⟩ := sw_q hz hs (oT l k l.length)
    rw [w2]
    simp only [bE_u]
    rw [w3]
    simp only [bd_u]
    have ty : hG C s l k = true → (∀ b, bst (hG C s l) k = some b → pc k < pc b) → Rt (if YT C s (oT l k l.length) = YT C s 0 then fX12_findHung_l84 (nI l.length) (nI s) (YT C s 0) m z1 (nI (k + 1)) M' else fX12_findHung_l84 (nI l.length) (nI s) (YT C s 0) m (nI k) (nI (k + 1)) M') _ := fun e1 e2 => by
      rw [if_neg (hG_t.mp e1)]
      exact kx (nI k, M') ⟨by rw [hun, if_pos ⟨hk0, e1, e2⟩], g2.trans w5, by omega⟩
    have tn : ¬ hG C s l k = true → Rt (if YT C s (oT l k l.length) = YT C s 0 then fX12_findHung_l84 (nI l.length) (nI s) (YT C s 0) m z1 (nI (k + 1)) M' else fX12_findHung_l84 (nI l.length) (nI s) (YT C s 0) m (nI k) (nI (k + 1)) M') _ := fun e1 => by
      rw [if_pos (Classical.byContradiction (fun w => e1 (hG_t.mpr w)))]
      exact kx (z1, M') ⟨by rw [hun, if_neg (fun w => e1 w.2.1)]; exact g1, g2.trans w5, by omega⟩
    rw [← g1]
    cases hbs : bst (hG C s l) k with
    | none =>
      have gz : z1 = -1 := by rw [g1, hbs]
      rw [if_pos (show z1 < 0 by rw [gz]; decide)]
      by_cases e1 : hG C s l k = true
      · exact ty e1 (fun b hb => by rw [hbs] at hb; exact absurd hb (by simp))
      · exact tn e1
    | some b =>
      obtain ⟨b1, b2, b3, b4⟩ := bst_s hbs
      have gz : z1 = nI b := by rw [g1, hbs]
      rw [if_neg (show ¬ z1 < 0 by rw [gz]; exact nI_pos (by omega)), bts_pc (show k < 2 ^ 31 by omega), show fX12_bitsOf z1.toInt64 = some (nI (pc b)) by rw [gz]; exact bts_pc (by omega)]
      simp only [bd_u]
      by_cases e2 : pc k < pc b
      · rw [if_pos (nI_lt e2 (by have := pc_le b; omega))]
        by_cases e1 : hG C s l k = true
        · exact ty e1 (fun d hd => by rw [hbs] at hd; rw [← Option.some.inj hd]; exact e2)
        · exact tn e1
      · rw [if_neg (nI_nlt (by omega) (by have := pc_le k; omega))]
        exact kx (z1, z2) ⟨by rw [hun, if_neg (fun w => e2 (w.2.2 b hbs))]; exact g1, g2, by omega⟩
/-- the component's choice -/
theorem hu_C {C M C0 : Mem} {nS nL : Nat} (h : Sim C M nS nL) (h0 : Sim C0 M nS nL) {s : Nat} (hs : s < nS) {l : List Nat} (hl : l.length ≤ 8) (hg : gAt l (mgI C0 4300 0)) :
    ∃ C', fX9_fewestThatTurn_l16 (nI l.length) (some s) (YT C s 0) FU (1 : Int32) C0 = some ((match bst (hG C s l) (2 ^ l.length) with | none => (0 : Int64) | some b => oT l b l.length), C') ∧ EqOff [4100, 4200] C0 C' := by
  have hp : 2 ^ l.length ≤ 256 := Nat.pow_le_pow_right (n := 2) (by omega) hl
  have hp1 : 1 ≤ 2 ^ l.length := Nat.one_le_two_pow
  have hp2 : ∀ k, (1 : Int32) <<< (nI l.length &&& 31) ≤ nI k ↔ nI (2 ^ l.length) ≤ nI k := fun k => by rw [pw_q _ (by omega)]
  have inner : ∀ (c : Nat) (k5 : Int32 → Mem → Option (Int64 × Mem)) (C1 : Mem), c ≤ 40 → EqOff [4100, 4200] C0 C1 → (∀ m, 1 ≤ m → m < 2 ^ l.length → hG C s l m = true → c ≤ pc m) → (∀ C2, EqOff [4100, 4200] C0 C2 → (∀ m, 1 ≤ m → m < 2 ^ l.length → hG C s l m = true → c + 1 ≤ pc m) → Rt (k5 (nI (c + 1)) C2) (fun r => r.1 = (match bst (hG C s l) (2 ^ l.length) with | none => (0 : Int64) | some b => oT l b l.length) ∧ EqOff [4100, 4200] C0 r.2)) →
      Rt (fX9_fewestThatTurn_l25 (nI l.length) (nI c) k5 (some s) (YT C s 0) FU (1 : Int32) C1) (fun r => r.1 = (match bst (hG C s l) (2 ^ l.length) with | none => (0 : Int64) | some b => oT l b l.length) ∧ EqOff [4100, 4200] C0 r.2) := by
    intro c k5 C1 hc gC hA kk
    refine lpR (fun m k (z : Mem) => fX9_fewestThatTurn_l25 (nI l.length) (nI c) k5 (some s) (YT C s 0) m (nI k) z) _ (2 ^ l.length) (fun k z => EqOff [4100, 4200] C0 z ∧ 1 ≤ k ∧ ∀ m, 1 ≤ m → m < k → hG C s l m = true → ¬ pc m = c) (fun m z hI => ?_) (fun m k z hk hI kx => ?_) FU 1 C1 hp1 ⟨gC, Nat.le_refl _, fun m m1 m2 => absurd m2 (by omega)⟩ (by have := FU_lt (N := 1000) (by omega); omega)
    · obtain ⟨g1, g2, g3⟩ := hI
      simp only [fX9_fewestThatTurn_l25, fX9_fewestThatTurn_b25, nm_u]
      rw [if_pos ((hp2 _).mpr (nI_le (Nat.le_refl _) (by omega))), nI_1]
      exact kk z g1 (fun m m1 m2 m3 => by
        have := hA m m1 m2 m3
        have := g3 m m1 m2 m3
        omega)
    · obtain ⟨g1, g2, g3⟩ := hI
      simp only [fX9_fewestThatTurn_l25, fX9_fewestThatTurn_b25, nm_u]
      have hg2 : gAt l (mgI z 4300 0) := by rw [(g1.on (K := [4300]) rfl 4300 (by decide)).1]; exact hg
      have hz : Sim z M nS nL := h0.fr (frW g1) FrM.refl
      rw [if_neg (fun w => nI_ge hk (by omega) ((hp2 _).mp w)), pop_pc (show k < 2 ^ 31 by omega), nI_1]
      by_cases e1 : pc k = c
      · rw [if_pos (by rw [e1]), as_q hl hg2 (show k < 256 by omega)]
        simp only [bd_u]
        obtain ⟨C', M', w1, w2, w3, w4, w5⟩ := sw_q hz hs (oT l k l.length)
        rw [w1, YT_C h hz hs]
        simp only [bE_u]
        by_cases e2 : hG C s l k = true
        · rw [if_neg (hG_t.mp e2)]
          have hbk : bst (hG C s l) (2 ^ l.length) = some k := by
            cases hbs : bst (hG C s l) (2 ^ l.length) with
            | none => exact absurd e2 (bst_n hbs k g2 hk)
            | some b =>
              obtain ⟨b1, b2, b3, b4⟩ := bst_s hbs
              have a1 := hA b b1 b2 b3
              rcases b4 k g2 hk e2 with a2 | ⟨a2, a3⟩
              · omega
              · rcases Nat.lt_or_ge b k with a4 | a4
                · exact absurd (by omega) (g3 b b1 a4 b3)
                · congr 1; omega
          rw [hbk]
          exact Rt_s ⟨rfl, g1.trans w4⟩
        · rw [if_pos (Classical.byContradiction (fun w => e2 (hG_t.mpr w)))]
          exact kx C' ⟨g1.trans w4, by omega, fun m m1 m2 m3 => by
            rcases Nat.lt_or_ge m k with a4 | a4
            · exact g3 m m1 a4 m3
            · have : m = k := by omega
              subst this
              exact absurd m3 e2⟩
      · rw [if_neg (fun w => e1 ((nI_eq (by have := pc_le k; omega) (by omega)).mp w))]
        exact kx z ⟨g1, by omega, fun m m1 m2 m3 => by
          rcases Nat.lt_or_ge m k with a4 | a4
          · exact g3 m m1 a4 m3
          · have : m = k := by omega
            subst this
            exact e1⟩
  have H := lpR (fun m c (z : Mem) => fX9_fewestThatTurn_l16 (nI l.length) (some s) (YT C s 0) m (nI c) z) (fun r => r.1 = (match bst (hG C s l) (2 ^ l.length) with | none => (0 : Int64) | some b => oT l b l.length) ∧ EqOff [4100, 4200] C0 r.2) (l.length + 1) (fun c z => EqOff [4100, 4200] C0 z ∧ ∀ m, 1 ≤ m → m < 2 ^ l.length → hG C s l m = true → c ≤ pc m) (fun m z hI => ?_) (fun m c z hc hI kx => ?_) FU 1 C0 (by omega) ⟨EqOff.refl, fun m m1 m2 _ => pc_1 (by omega) m1⟩ (by have := FU_lt (N := 1000) (by omega); omega)
  · obtain ⟨⟨r1, r2⟩, e, g1, g2⟩ := H
    dsimp only at g1 g2
    subst g1
    exact ⟨r2, e, g2⟩
  · obtain ⟨g1, g2⟩ := hI
    simp only [fX9_fewestThatTurn_l16, fX9_fewestThatTurn_b16]
    rw [if_pos (nI_lt (show l.length < l.length + 1 by omega) (by omega))]
    have hbk : bst (hG C s l) (2 ^ l.length) = none := by
      cases hbs : bst (hG C s l) (2 ^ l.length) with
      | none => rfl
      | some b =>
        obtain ⟨b1, b2, b3, b4⟩ := bst_s hbs
        have a1 := g2 b b1 b2 b3
        have a2 := pc_k b2 (by omega)
        omega
    rw [hbk]
    exact Rt_s ⟨rfl, g1⟩
  · obtain ⟨g1, g2⟩ := hI
    simp only [fX9_fewestThatTurn_l16, fX9_fewestThatTurn_b16]
    rw [if_neg (nI_nlt (show c ≤ l.length by omega) (by omega))]
    exact inner c _ z (by omega) g1 g2 (fun C2 k1 k2 => kx C2 ⟨k1, k2⟩)
