/-! tell: gathering by the component -/
theorem gs_C {C M M5 : Mem} {nS nL : Nat} (h : Sim C M nS nL) (hS : Std C M M5 nS nL) : ∃ C', fX3_gatherSets C = some (nI (2 ^ (gt (sQ2 C M) nS).length), C') ∧ EqOff [2800, 2900] C C' ∧ tSt (aV M5) (mgI M 5200 0) (gt (sQ2 C M) nS) C' := by
  have hb : nS ≤ 64 ∧ nL ≤ 200 := sm_b1 h
  unfold fX3_gatherSets
  simp only [nm_u]
  rw [show (0 : Int32).toNatClampNeg = 0 from rfl]
  have H := lpR (fun m k (z : Nat × Mem) => fX3_gatherSets_l18 m (nI (2 ^ z.1)) (nI k) z.2) (fun r => r.1 = nI (2 ^ (gt (sQ2 C M) nS).length) ∧ EqOff [2800, 2900] C r.2 ∧ tSt (aV M5) (mgI M 5200 0) (gt (sQ2 C M) nS) r.2) nS (fun k z => z.1 = (gt (sQ2 C M) k).length ∧ EqOff [2800, 2900] C z.2 ∧ tSt (aV M5) (mgI M 5200 0) (gt (sQ2 C M) k) z.2) (fun m z hI => ?_) (fun m k z hk hI kx => ?_) FU 0 (0, msI (msL C 2800 0 0 0) 2900 0 0 0) (Nat.zero_le _) ⟨rfl, (EqOff.refl.L rfl).I rfl, fun m hm => ?_⟩ (FU_lt (by omega))
  · obtain ⟨⟨r1, r2⟩, e, g1, g2, g3⟩ := H
    dsimp only at g1 g2 g3
    subst g1
    exact ⟨r2, e, g2, g3⟩
  · obtain ⟨z1, z2⟩ := z
    obtain ⟨g1, g2, g3⟩ := hI
    dsimp only at g1 g2 g3
    simp only [fX3_gatherSets_l18, fX3_gatherSets_b18]
    rw [(g2.on (K := [502]) rfl 502 (by decide)).1, (sm_c1 h).1, if_pos (nI_le (Nat.le_refl _) (by omega)), g1]
    exact Rt_s ⟨rfl, g2, g3⟩
  · obtain ⟨z1, z2⟩ := z
    obtain ⟨g1, g2, g3⟩ := hI
    dsimp only at g1 g2 g3
    have hl10 := gt_10 (sQ2 C M) k
    have hz : Sim z2 M nS nL := h.fr (FrC.of (g2.wide rfl)) FrM.refl
    have e815 : ∀ s, bl z2 s = bl C s := fun s => by
      unfold bl
      rw [(g2.on (K := [815]) rfl 815 (by decide)).2.1]
    have hSz : Std z2 M M5 nS nL := by
      obtain ⟨s1, s2, s3, s4⟩ := hS
      exact ⟨s1, fun s hs => by rw [e815]; exact s2 s hs, fun o ho k hk => by rw [e815]; exact s3 o ho k hk, s4⟩
    have esB : sB z2 M k = sB C M k := by unfold sB; rw [e815]
    have hun : gt (sQ2 C M) (k + 1) = if (gt (sQ2 C M) k).length < 10 ∧ sQ2 C M k = true then gt (sQ2 C M) k ++ [k] else gt (sQ2 C M) k := rfl
    simp only [fX3_gatherSets_l18, fX3_gatherSets_b18, nm_u]
    rw [(sm_c1 hz).1, if_neg (nI_ge hk (by omega)), g1]
    by_cases e10 : 10 ≤ (gt (sQ2 C M) k).length
    · have e10' : (gt (sQ2 C M) k).length = 10 := by omega
      have hf := gt_full e10 (nS - k)
      rw [show k + (nS - k) = nS by omega] at hf
      rw [e10', if_pos (show (1024 : Int32) ≤ nI (2 ^ 10) from by decide)]
      exact Rt_s ⟨by rw [hf, e10'], g2, by rw [hf]; exact g3⟩
    · have hp : 2 ^ (gt (sQ2 C M) k).length ≤ 512 := Nat.pow_le_pow_right (n := 2) (by omega) (show (gt (sQ2 C M) k).length ≤ 9 by omega)
      rw [if_neg (show ¬ (1024 : Int32) ≤ nI (2 ^ (gt (sQ2 C M) k).length) from nI_ge (b := 1024) (by omega) (by omega)), ix_n (show k < 64 by omega) (by omega), nI_clamp (by omega), sm_r1 hz k hk, still_C hz hk, esB]
      simp only [bd_u]
      by_cases e0 : sB C M k = 0
      · rw [if_pos e0, nI_1]
        have hn : ¬ sQ2 C M k = true := by simp [sQ2, e0]
        exact kx ((gt (sQ2 C M) k).length, z2) ⟨by rw [hun, if_neg (fun w => hn w.2)], g2, by rw [hun, if_neg (fun w => hn w.2)]; exact g3⟩
      · rw [if_neg e0, ab_C hz hSz hk]
        simp only [bd_u]
        have hy : sQ2 C M k = true := by simp [sQ2, e0]
        refine gs_in h hk (l := gt (sQ2 C M) k) (by omega) _ _ z2 g2 g3 (fun z3 y1 y2 => ?_)
        have := kx ((gt (sQ2 C M) k).length + 1, z3) ⟨by rw [hun, if_pos ⟨by omega, hy⟩, List.length_append]; rfl, y1, by rw [hun, if_pos ⟨by omega, hy⟩]; exact y2⟩
        exact this
  · have hm0 : m = 0 := by
      have : m < 2 ^ 0 := hm
      omega
    subst hm0
    constructor
    · show mgL (msI (msL C 2800 0 0 0) 2900 0 0 0) 2800 0 0 = 0
      rw [gL_I]; exact gL_s
    · show mgI (msI (msL C 2800 0 0 0) 2900 0 0 0) 2900 0 0 = 0
      exact gI_s
/-! the best set -/
def bT (p : Nat → Nat) (S : Nat → Int32) (x1 : Int32) : Nat → Nat
  | 0 => 0
  | n + 1 => if n ≠ 0 ∧ ¬ x1 < S n ∧ (p (bT p S x1 n) < p n ∨ (p n = p (bT p S x1 n) ∧ S n < S (bT p S x1 n))) then n else bT p S x1 n
theorem bT_lt {p : Nat → Nat} {S : Nat → Int32} {x1 : Int32} : ∀ n, 0 < n → bT p S x1 n < n
  | 0, h => absurd h (by omega)
  | n + 1, _ => by
    unfold bT
    split
    · omega
    · rcases Nat.eq_zero_or_pos n with e | e
      · subst e; exact Nat.one_pos
      · have := bT_lt (p := p) (S := S) (x1 := x1) n e; omega
def pS (a : Nat → Int64) (l : List Nat) (m : Nat) : Nat := ctU (hB (tO a l m l.length)) 64
def sS (w : Nat → Int32) (l : List Nat) (m : Nat) : Int32 := tS w l m l.length
theorem isB_q {C' : Mem} {a : Nat → Int64} {w : Nat → Int32} {l : List Nat} (hl : l.length ≤ 10) (ht : tSt a w l C') {i b : Nat} (hi : i < 2 ^ l.length) (hb : b < 2 ^ l.length) : fX3_isBetter (nI i) (nI b) C' = some (if pS a l b < pS a l i ∨ (pS a l i = pS a l b ∧ sS w l i < sS w l b) then 1 else 0) := by
  have hp : 2 ^ l.length ≤ 1024 := Nat.pow_le_pow_right (n := 2) (by omega) hl
  have p1 : pS a l i ≤ 64 := ctU_le _ _
  have p2 : pS a l b ≤ 64 := ctU_le _ _
  unfold fX3_isBetter
  simp only [nm_u, ix_n (show i < 1024 by omega) (show 1024 < 2 ^ 31 by omega), ix_n (show b < 1024 by omega) (show 1024 < 2 ^ 31 by omega), nI_clamp (show i < 2 ^ 31 by omega), nI_clamp (show b < 2 ^ 31 by omega), (ht i hi).1, (ht i hi).2, (ht b hb).1, (ht b hb).2, pop64]
  show (if 0 < nI (pS a l i) - nI (pS a l b) then some 1 else if nI (pS a l i) - nI (pS a l b) = 0 then (if sS w l b ≤ sS w l i then some 0 else some 1) else some 0) = _
  have d := sub_toInt (a := pS a l i) (b := pS a l b) (by omega) (by omega)
  have d1 : (0 : Int32) < nI (pS a l i) - nI (pS a l b) ↔ pS a l b < pS a l i := by
    rw [Int32.lt_iff_toInt_lt, d, show (0 : Int32).toInt = 0 from by decide]; omega
  have d2 : nI (pS a l i) - nI (pS a l b) = 0 ↔ pS a l i = pS a l b := by
    rw [← Int32.toInt_inj, d, show (0 : Int32).toInt = 0 from by decide]; omega
  by_cases e1 : pS a l b < pS a l i
  · rw [if_pos (d1.mpr e1), if_pos (Or.inl e1)]
  · rw [if_neg (fun z => e1 (d1.mp z))]
    by_cases e2 : pS a l i = pS a l b
    · rw [if_pos (d2.mpr e2)]
      by_cases e3 : sS w l i < sS w l b
      · rw [if_neg (fun z => absurd e3 (Int32.not_lt.mpr z)), if_pos (Or.inr ⟨e2, e3⟩)]
      · rw [if_pos (Int32.not_lt.mp e3), if_neg (fun z => z.elim e1 (fun y => e3 y.2))]
    · rw [if_neg (fun z => e2 (d2.mp z)), if_neg (fun z => z.elim e1 (fun y => e2 y.1))]
theorem be_C {C' : Mem} {a : Nat → Int64} {w : Nat → Int32} {l : List Nat} (hl : l.length ≤ 10) (ht : tSt a w l C') (x1 : Int32) : fX3_bestSet_l10 (nI (2 ^ l.length)) C' x1 FU (0 : Int32) (1 : Int32) = some (nI (bT (pS a l) (sS w l) x1 (2 ^ l.length)), C') := by
  have hp : 2 ^ l.length ≤ 1024 := Nat.pow_le_pow_right (n := 2) (by omega) hl
  have hp1 : 1 ≤ 2 ^ l.length := Nat.one_le_two_pow
  have H := lpR (fun m k (z : Int32) => fX3_bestSet_l10 (nI (2 ^ l.length)) C' x1 m z (nI k)) (fun r => r = (nI (bT (pS a l) (sS w l) x1 (2 ^ l.length)), C')) (2 ^ l.length) (fun k z => z = nI (bT (pS a l) (sS w l) x1 k) ∧ 1 ≤ k) (fun m z hI => ?_) (fun m k z hk hI kx => ?_) FU 1 0 hp1 ⟨rfl, Nat.le_refl _⟩ (by have := FU_lt (N := 2000) (by omega); omega)
  · obtain ⟨r, e, g⟩ := H
    rw [g] at e
    exact e
  · obtain ⟨rfl, -⟩ := hI
    simp only [fX3_bestSet_l10, fX3_bestSet_b10]
    rw [if_pos (nI_le (Nat.le_refl _) (by omega))]
    exact Rt_s rfl
  · obtain ⟨rfl, h1⟩ := hI
    have hbt := bT_lt (p := pS a l) (S := sS w l) (x1 := x1) k (by omega)
    have hun : bT (pS a l) (sS w l) x1 (k + 1) = if k ≠ 0 ∧ ¬ x1 < sS w l k ∧ (pS a l (bT (pS a l) (sS w l) x1 k) < pS a l k ∨ (pS a l k = pS a l (bT (pS a l) (sS w l) x1 k) ∧ sS w l k < sS w l (bT (pS a l) (sS w l) x1 k))) then k else bT (pS a l) (sS w l) x1 k := rfl
    simp only [fX3_bestSet_l10, fX3_bestSet_b10, nm_u]
    rw [if_neg (nI_ge hk (by omega)), ix_n (show k < 1024 by omega) (by omega), nI_clamp (by omega), (ht k hk).2, isB_q hl ht hk (by omega), nI_1]
    simp only [bd_u]
    by_cases e1 : x1 < sS w l k
    · rw [if_pos (show x1 < tS w l k l.length from e1)]
      exact kx _ ⟨by rw [hun, if_neg (fun z => z.2.1 e1)], by omega⟩
    · rw [if_neg (show ¬ x1 < tS w l k l.length from e1)]
      by_cases e2 : pS a l (bT (pS a l) (sS w l) x1 k) < pS a l k ∨ (pS a l k = pS a l (bT (pS a l) (sS w l) x1 k) ∧ sS w l k < sS w l (bT (pS a l) (sS w l) x1 k))
      · rw [if_pos e2, if_neg one_ne]
        exact kx _ ⟨by rw [hun, if_pos ⟨by omega, e1, e2⟩], by omega⟩
      · rw [if_neg e2, if_pos rfl]
        exact kx _ ⟨by rw [hun, if_neg (fun z => e2 z.2.2)], by omega⟩
