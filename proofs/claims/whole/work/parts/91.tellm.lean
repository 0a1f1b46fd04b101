/-! tell: the reference -/
theorem l49 (i8 x1 i16 : Int32) (k12 : Int32 → Int32 → Int32 → Int32 → Option (Int32 × Mem)) (i13 i14 i15 : Int32) (M : Mem) : ∀ m, fX12_tell_l103_49 i8 x1 i16 k12 i13 i14 i15 M m = fX12_tell_l103 i8 x1 i16 k12 i13 i14 i15 M m
  | 0 => rfl
  | m + 1 => by
    funext i j k
    show fX12_tell_b103_49 i8 x1 i16 k12 i13 i14 i15 M (fX12_tell_l103_49 i8 x1 i16 k12 i13 i14 i15 M m) i j k = fX12_tell_b103 i8 x1 i16 k12 i13 i14 i15 M (fX12_tell_l103 i8 x1 i16 k12 i13 i14 i15 M m) i j k
    rw [l49 i8 x1 i16 k12 i13 i14 i15 M m]
    rfl
theorem l86e (i8 x2 : Int32) (M : Mem) (x1 : Int32) : ∀ m, fX12_tell_l86_41 i8 x2 M x1 m = fX12_tell_l86 i8 x2 M x1 m
  | 0 => rfl
  | m + 1 => by
    funext i j k n
    show fX12_tell_b86_41 i8 x2 M x1 (fX12_tell_l86_41 i8 x2 M x1 m) i j k n = fX12_tell_b86 i8 x2 M x1 (fX12_tell_l86 i8 x2 M x1 m) i j k n
    rw [l86e i8 x2 M x1 m]
    unfold fX12_tell_b86_41 fX12_tell_b86
    simp only [l49]
theorem bit_t : ∀ y, y < 1024 → ∀ n, n < 10 → ((((nI y) >>> ((nI n) &&& 31)) &&& (1 : Int32)) = 0 ↔ ¬ y.testBit n = true) := by decide +kernel
theorem te_in {M5 M4 : Mem} {w : Nat → Int32} {nS : Nat} (hn : nS ≤ 64) {l : List Nat} (hl : l.length ≤ 10) (hm : ∀ j, j < l.length → l.getD j 0 < nS) (hg : gAt l (mgI M4 7500 0)) (h52 : mgI M4 5200 0 = w) (h65 : mgL M4 6500 0 = mgL M5 6500 0) {k : Nat} (hk : k < 1024) (x1 : Int32) (k12 : Int32 → Int32 → Int32 → Int32 → Option (Int32 × Mem)) (i13 i14 i15 : Int32) :
    fX12_tell_l103 (nI l.length) x1 (nI k) k12 i13 i14 i15 M4 FU (0 : Int32) (0 : Int64) (0 : Int32) = if x1 < sS w l k then k12 i13 i14 i15 (nI (k + 1)) else if nI (pS (aV M5) l k) < i14 then k12 i13 i14 i15 (nI (k + 1)) else if nI (pS (aV M5) l k) = i14 then (if sS w l k < i15 then k12 (nI k) (nI (pS (aV M5) l k)) (sS w l k) (nI (k + 1)) else k12 i13 i14 i15 (nI (k + 1))) else k12 (nI k) (nI (pS (aV M5) l k)) (sS w l k) (nI (k + 1)) := by
  refine lpT (fun m j (z : Int32 × Int64) => fX12_tell_l103 (nI l.length) x1 (nI k) k12 i13 i14 i15 M4 m z.1 z.2 (nI j)) l.length (fun j => (tS w l k j, tO (aV M5) l k j)) _ (fun m => ?_) (fun m j hj => ?_) FU 0 (Nat.zero_le _) (FU_lt (by omega))
  · simp only [fX12_tell_l103, fX12_tell_b103, nm_u]
    rw [if_pos (nI_le (Nat.le_refl _) (by omega)), bitsOf_q, nI_1]
    rfl
  · have hx := hm j hj
    simp only [fX12_tell_l103, fX12_tell_b103, nm_u]
    rw [if_neg (nI_ge hj (by omega))]
    simp only [ix_n (show j < 10 by omega) (show 10 < 2 ^ 31 by omega), nI_clamp (show j < 2 ^ 31 by omega), gAt_D hg hj, ix_n (show l.getD j 0 < 64 by omega) (show 64 < 2 ^ 31 by omega), nI_clamp (show l.getD j 0 < 2 ^ 31 by omega), nI_1, h52, h65]
    show _ = fX12_tell_l103 (nI l.length) x1 (nI k) k12 i13 i14 i15 M4 m (if k.testBit j = true then tS w l k j + w (l.getD j 0) else tS w l k j) (if k.testBit j = true then tO (aV M5) l k j ||| aV M5 (l.getD j 0) else tO (aV M5) l k j) (nI (j + 1))
    by_cases e : k.testBit j = true
    · rw [if_neg (fun z => (bit_t k hk j (by omega)).mp z e), if_pos e, if_pos e]
      rfl
    · rw [if_pos ((bit_t k hk j (by omega)).mpr e), if_neg e, if_neg e]
theorem t_0 {a : Nat → Int64} {w : Nat → Int32} {l : List Nat} : ∀ k, tO a l 0 k = 0 ∧ tS w l 0 k = 0
  | 0 => ⟨rfl, rfl⟩
  | k + 1 => by
    obtain ⟨i1, i2⟩ := t_0 (a := a) (w := w) (l := l) k
    have hb : ¬ (0 : Nat).testBit k = true := by rw [Nat.zero_testBit]; decide
    exact ⟨(if_neg hb).trans i1, (if_neg hb).trans i2⟩
theorem te_M {M5 M4 : Mem} {w : Nat → Int32} {nS : Nat} (hn : nS ≤ 64) {l : List Nat} (hl : l.length ≤ 10) (hm : ∀ j, j < l.length → l.getD j 0 < nS) (hg : gAt l (mgI M4 7500 0)) (h52 : mgI M4 5200 0 = w) (h65 : mgL M4 6500 0 = mgL M5 6500 0) (x1 x2 : Int32) :
    fX12_tell_l86 (nI l.length) x2 M4 x1 FU (0 : Int32) (0 : Int32) (0 : Int32) (1 : Int32) = (if x2 = 0 then some (nI (pS (aV M5) l (bT (pS (aV M5) l) (sS w l) x1 (2 ^ l.length))), M4) else if x2 = (1 : Int32) then some (sS w l (bT (pS (aV M5) l) (sS w l) x1 (2 ^ l.length)), M4) else some (nI (bT (pS (aV M5) l) (sS w l) x1 (2 ^ l.length)), M4)) := by
  have hp : 2 ^ l.length ≤ 1024 := Nat.pow_le_pow_right (n := 2) (by omega) hl
  have hp1 : 1 ≤ 2 ^ l.length := Nat.one_le_two_pow
  have hp2 : ∀ k, (1 : Int32) <<< (nI l.length &&& 31) ≤ nI k ↔ nI (2 ^ l.length) ≤ nI k := fun k => by rw [pw_q _ (by omega)]
  have H := lpT (fun m k (z : Int32 × Int32 × Int32) => fX12_tell_l86 (nI l.length) x2 M4 x1 m z.1 z.2.1 z.2.2 (nI k)) (2 ^ l.length) (fun k => (nI (bT (pS (aV M5) l) (sS w l) x1 k), nI (pS (aV M5) l (bT (pS (aV M5) l) (sS w l) x1 k)), sS w l (bT (pS (aV M5) l) (sS w l) x1 k))) (if x2 = 0 then some (nI (pS (aV M5) l (bT (pS (aV M5) l) (sS w l) x1 (2 ^ l.length))), M4) else if x2 = (1 : Int32) then some (sS w l (bT (pS (aV M5) l) (sS w l) x1 (2 ^ l.length)), M4) else some (nI (bT (pS (aV M5) l) (sS w l) x1 (2 ^ l.length)), M4)) (fun m => ?_) (fun m k hk => ?_) FU 1 hp1 (by have := FU_lt (N := 2000) (by omega); omega)
  · have b1 : bT (pS (aV M5) l) (sS w l) x1 1 = 0 := by
      show (if (0 : Nat) ≠ 0 ∧ _ then 0 else 0) = 0
      exact ite_self _
    have p0 : pS (aV M5) l 0 = 0 := by
      unfold pS
      rw [(t_0 (a := aV M5) (w := w) (l := l) l.length).1]
      exact ctU_no (fun k _ => hB_0 k)
    have s0 : sS w l 0 = 0 := (t_0 (a := aV M5) (w := w) (l := l) l.length).2
    dsimp only at H
    rw [b1, p0, s0] at H
    exact H
  · simp only [fX12_tell_l86, fX12_tell_b86]
    rw [if_pos ((hp2 _).mpr (nI_le (Nat.le_refl _) (by omega)))]
  · have hun : bT (pS (aV M5) l) (sS w l) x1 (k + 1) = if k ≠ 0 ∧ ¬ x1 < sS w l k ∧ (pS (aV M5) l (bT (pS (aV M5) l) (sS w l) x1 k) < pS (aV M5) l k ∨ (pS (aV M5) l k = pS (aV M5) l (bT (pS (aV M5) l) (sS w l) x1 k) ∧ sS w l k < sS w l (bT (pS (aV M5) l) (sS w l) x1 k))) then k else bT (pS (aV M5) l) (sS w l) x1 k := rfl
    have hk0 : k = 0 → bT (pS (aV M5) l) (sS w l) x1 k = k := fun e => by subst e; rfl
    simp only [fX12_tell_l86, fX12_tell_b86]
    rw [if_neg (fun z => nI_ge hk (by omega) ((hp2 _).mp z)), te_in hn hl hm hg h52 h65 (show k < 1024 by omega)]
    rw [hun]
    generalize bT (pS (aV M5) l) (sS w l) x1 k = b at hk0 ⊢
    have p1 : pS (aV M5) l k ≤ 64 := ctU_le _ _
    have p2 : pS (aV M5) l b ≤ 64 := ctU_le _ _
    by_cases e1 : x1 < sS w l k
    · rw [if_pos e1, if_neg (fun z => z.2.1 e1)]
    · rw [if_neg e1]
      by_cases e2 : pS (aV M5) l k < pS (aV M5) l b
      · rw [if_pos (nI_lt e2 (by omega)), if_neg (fun z => by rcases z.2.2 with y | ⟨y, -⟩ <;> omega)]
      · rw [if_neg (nI_nlt (by omega) (by omega))]
        by_cases e3 : pS (aV M5) l k = pS (aV M5) l b
        · rw [if_pos (by rw [e3])]
          by_cases e4 : sS w l k < sS w l b
          · have k0 : k ≠ 0 := fun z => by rw [hk0 z] at e4; exact absurd e4 Int32.lt_irrefl
            rw [if_pos e4, if_pos ⟨k0, e1, Or.inr ⟨e3, e4⟩⟩]
          · rw [if_neg e4, if_neg (fun z => z.2.2.elim (fun y => by omega) (fun y => e4 y.2))]
        · have k0 : k ≠ 0 := fun z => by rw [hk0 z] at e3; exact e3 rfl
          rw [if_neg (fun z => e3 ((nI_eq (by omega) (by omega)).mp z)), if_pos ⟨k0, e1, Or.inl (by omega)⟩]
theorem gt_M {C M M5 : Mem} {nS nL : Nat} (h : Sim C M nS nL) (hS : StW C M M5 nS) (x1 x2 : Int32) : ∃ M4, fX12_tell_l30 x2 x1 FU (0 : Int32) (0 : Int32) M5 = fX12_tell_l86 (nI (gt (sQ2 C M) nS).length) x2 M4 x1 FU (0 : Int32) (0 : Int32) (0 : Int32) (1 : Int32) ∧ EqOff [7500] M5 M4 ∧ gAt (gt (sQ2 C M) nS) (mgI M4 7500 0) := by
  have hb : nS ≤ 64 ∧ nL ≤ 200 := sm_b1 h
  have key : ∀ (d k n : Nat) (M3 : Mem), k + d = nS → d < n → EqOff [7500] M5 M3 → gAt (gt (sQ2 C M) k) (mgI M3 7500 0) → ∃ M4, fX12_tell_l30 x2 x1 n (nI (gt (sQ2 C M) k).length) (nI k) M3 = fX12_tell_l86 (nI (gt (sQ2 C M) nS).length) x2 M4 x1 FU (0 : Int32) (0 : Int32) (0 : Int32) (1 : Int32) ∧ EqOff [7500] M5 M4 ∧ gAt (gt (sQ2 C M) nS) (mgI M4 7500 0) := by
    intro d
    induction d with
    | zero =>
      intro k n M3 hk hn g2 g3
      obtain ⟨n, rfl⟩ : ∃ t, n = t + 1 := ⟨n - 1, by omega⟩
      have : k = nS := by omega
      subst this
      have h12 : mgI M3 1202 0 0 = nI k := by rw [(g2.on (K := [1202]) rfl 1202 (by decide)).1, hS.1.i rfl]; exact (sm_c2 h).1
      simp only [fX12_tell_l30, fX12_tell_b30]
      rw [h12, if_pos (nI_le (Nat.le_refl _) (by omega))]
      exact ⟨M3, rfl, g2, g3⟩
    | succ d ih =>
      intro k n M3 hk hn g2 g3
      obtain ⟨n, rfl⟩ : ∃ t, n = t + 1 := ⟨n - 1, by omega⟩
      have hl10 := gt_10 (sQ2 C M) k
      have h12 : mgI M3 1202 0 0 = nI nS := by rw [(g2.on (K := [1202]) rfl 1202 (by decide)).1, hS.1.i rfl]; exact (sm_c2 h).1
      simp only [fX12_tell_l30, fX12_tell_b30, nm_u]
      rw [h12, if_neg (nI_ge (show k < nS by omega) (by omega))]
      by_cases e8 : 10 ≤ (gt (sQ2 C M) k).length
      · have hf := gt_full e8 (nS - k)
        rw [show k + (nS - k) = nS by omega] at hf
        rw [if_pos (show (10 : Int32) ≤ nI (gt (sQ2 C M) k).length from nI_le (a := 10) e8 (by omega)), hf, l86e]
        exact ⟨M3, rfl, g2, g3⟩
      · rw [if_neg (show ¬ (10 : Int32) ≤ nI (gt (sQ2 C M) k).length from nI_ge (b := 10) (by omega) (by omega))]
        have hf3 : FrM M5 M3 := FrM.of (g2.wide rfl)
        have hS3 : StW C M M3 nS := hS.on g2 hf3 rfl
        rw [still_M h hS3 (show k < nS by omega)]
        simp only [bd_u, ix_n (show (gt (sQ2 C M) k).length < 10 by omega) (show 10 < 2 ^ 31 by omega), nI_clamp (show (gt (sQ2 C M) k).length < 2 ^ 31 by omega), nI_1]
        have hun : gt (sQ2 C M) (k + 1) = if (gt (sQ2 C M) k).length < 10 ∧ sQ2 C M k = true then gt (sQ2 C M) k ++ [k] else gt (sQ2 C M) k := rfl
        by_cases e0 : sB C M k = 0
        · rw [if_pos e0]
          have hn : ¬ sQ2 C M k = true := by simp [sQ2, e0]
          have i := ih (k + 1) n M3 (by omega) (by omega) g2 (by rw [hun, if_neg (fun z => hn z.2)]; exact g3)
          rw [hun, if_neg (fun z => hn z.2)] at i
          exact i
        · rw [if_neg e0]
          have hy : sQ2 C M k = true := by simp [sQ2, e0]
          have i := ih (k + 1) n (msI M3 7500 0 (gt (sQ2 C M) k).length (nI k)) (by omega) (by omega) (g2.I rfl) (by
            rw [hun, if_pos ⟨by omega, hy⟩]
            refine gAt_app g3 (fun j => ?_)
            simp only [uI_I, uL_L, uR_R, uI_L, uI_R, uL_I, uL_R, uR_I, uR_L, Nat.reduceEqDiff, false_and, and_false, true_and, and_true, ↓reduceIte])
          rw [hun, if_pos ⟨by omega, hy⟩, List.length_append] at i
          exact i
  exact key nS 0 FU M5 (by omega) (FU_lt (by omega)) EqOff.refl (fun j hj => absurd hj (Nat.not_lt_zero j))
theorem in_c3 (x : Int32) {n : Nat} (hn : n < 2 ^ 31) : (fX12_in x 0 (nI n) = 0 ∧ (x < 0 ∨ ¬ x < 0 ∧ nI n < x)) ∨ (fX12_in x 0 (nI n) = 1 ∧ ¬ x < 0 ∧ ¬ nI n < x) := by
  unfold fX12_in
  by_cases h1 : x < 0
  · rw [if_pos h1]; exact Or.inl ⟨rfl, Or.inl h1⟩
  · rw [if_neg h1]
    by_cases h2 : nI n < x
    · rw [if_pos h2]; exact Or.inl ⟨rfl, Or.inr ⟨h1, h2⟩⟩
    · rw [if_neg h2]; exact Or.inr ⟨rfl, h1, h2⟩
theorem qs_tell {C M : Mem} {nS nL : Nat} (h : Sim C M nS nL) (a1 a2 : Int32) : QA nS nL (fX11_tell a1 a2 C) (fX12_tell a1 a2 M) := by
  have hb : nS ≤ 64 ∧ nL ≤ 200 := sm_b1 h
  unfold fX11_tell fX12_tell
  simp only [nm_u]
  rcases in_c3 a1 (n := 60) (by omega) with ⟨x1, x2 | ⟨x2, x3⟩⟩ | ⟨x1, x2, x3⟩
  · rw [show fX12_in a1 (0 : Int32) (60 : Int32) = 0 from x1, if_pos x2]
    exact QA_same h rfl rfl
  · rw [show fX12_in a1 (0 : Int32) (60 : Int32) = 0 from x1, if_neg x2, if_pos (show (60 : Int32) < a1 from x3)]
    exact QA_same h rfl rfl
  · rw [show fX12_in a1 (0 : Int32) (60 : Int32) = 1 from x1, if_neg x2, if_neg (show ¬ (60 : Int32) < a1 from x3), if_neg one_ne]
    rcases in_c3 a2 (n := 2) (by omega) with ⟨y1, y2 | ⟨y2, y3⟩⟩ | ⟨y1, y2, y3⟩
    · rw [show fX12_in a2 (0 : Int32) (2 : Int32) = 0 from y1, if_pos y2]
      exact QA_same h rfl rfl
    · rw [show fX12_in a2 (0 : Int32) (2 : Int32) = 0 from y1, if_neg y2, if_neg (show ¬ a2 ≤ (2 : Int32) from Int32.not_le.mpr y3)]
      exact QA_same h rfl rfl
    · rw [show fX12_in a2 (0 : Int32) (2 : Int32) = 1 from y1, if_neg y2, if_pos (show a2 ≤ (2 : Int32) from Int32.not_lt.mp y3), if_neg one_ne]
      obtain ⟨M5, f1, hS⟩ := fs_q h
      obtain ⟨C', g1, g2, g3⟩ := gs_C h hS
      obtain ⟨M4, k1, k2, k3⟩ := gt_M h hS.w a1 a2
      have hl := gt_10 (sQ2 C M) nS
      have hm : ∀ j, j < (gt (sQ2 C M) nS).length → (gt (sQ2 C M) nS).getD j 0 < nS := fun j hj => by
        rw [List.getD_eq_getElem?_getD, List.getElem?_eq_getElem hj]
        exact gt_lt _ _ _ (List.getElem_mem hj)
      have hp : 2 ^ (gt (sQ2 C M) nS).length ≤ 1024 := Nat.pow_le_pow_right (n := 2) (by omega) hl
      have h52 : mgI M4 5200 0 = mgI M 5200 0 := by rw [(k2.on (K := [5200]) rfl 5200 (by decide)).1, (hS.1.on (K := [5200]) rfl 5200 (by decide)).1]
      have h65 : mgL M4 6500 0 = mgL M5 6500 0 := by rw [(k2.on (K := [6500]) rfl 6500 (by decide)).2.1]
      have hSim : Sim C' M4 nS nL := ((h.fr (FrC.of (g2.wide rfl)) FrM.refl).fr FrC.refl (FrM.of (hS.1.wide rfl))).fr FrC.refl (FrM.of (k2.wide rfl))
      rw [f1]
      unfold fX3_bestSet
      rw [g1]
      simp only [bE_u]
      rw [be_C hl g3, k1, te_M hb.1 hl hm k3 h52 h65]
      simp only [bE_u]
      have hbt := bT_lt (p := pS (aV M5) (gt (sQ2 C M) nS)) (S := sS (mgI M 5200 0) (gt (sQ2 C M) nS)) (x1 := a1) (2 ^ (gt (sQ2 C M) nS).length) Nat.one_le_two_pow
      generalize bT (pS (aV M5) (gt (sQ2 C M) nS)) (sS (mgI M 5200 0) (gt (sQ2 C M) nS)) a1 (2 ^ (gt (sQ2 C M) nS).length) = b at hbt ⊢
      rw [ix_n (show b < 1024 by omega) (by omega), ix_n (show b < 1024 by omega) (by omega), nI_clamp (by omega), (g3 b hbt).1, (g3 b hbt).2, pop64]
      by_cases e0 : a2 = 0
      · rw [if_pos e0, if_pos e0]
        exact ⟨_, _, _, rfl, rfl, hSim⟩
      · rw [if_neg e0, if_neg e0]
        by_cases e1 : a2 = 1
        · rw [if_pos e1, if_pos e1]
          exact ⟨_, _, _, rfl, rfl, hSim⟩
        · rw [if_neg e1, if_neg e1]
          exact ⟨_, _, _, rfl, rfl, hSim⟩
