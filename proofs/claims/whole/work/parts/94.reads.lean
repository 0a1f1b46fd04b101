/-! the two readers: the tape, where they are, what they laid -/
def TaB (t : Nat) (B : Nat → Nat) (C M : Mem) : Prop := t ≤ 120 ∧ mgI C 701 0 0 = nI t ∧ mgI M 1233 0 0 = nI t ∧ ∀ k, k < t → B k < 256 ∧ mgI C 3900 0 k = nI (B k) ∧ mgI M 7600 0 k = (nI (B k)).toInt8.toInt32
def LoM (M M' : Mem) : Prop := ∀ j, j < 260 → mgI M' 7700 0 j = mgI M 7700 0 j ∧ mgI M' 7800 0 j = mgI M 7800 0 j
def rdC : List Nat := [703, 704, 1001, 4400]
def rdM : List Nat := [1234, 1235, 1236, 1237, 7700, 7800]
def PC (C1 : Mem) (p : Nat) (l : List Tok) (C : Mem) : Prop := (EqOff rdC C1 C ∧ TxC C1 C) ∧ mgI C 703 0 0 = nI p ∧ mgI C 704 0 0 = -1 ∧ mgI C 1001 2 0 = nI l.length ∧ itm (mgI C 4400 2) 0 l
def PM (M1 : Mem) (p op : Nat) (l : List Tok) (M : Mem) : Prop := (EqOff rdM M1 M ∧ LoM M1 M) ∧ mgI M 1234 0 0 = nI p ∧ mgI M 1235 0 0 = -1 ∧ mgI M 1236 0 0 = nI op ∧ mgI M 1237 0 0 = nI l.length ∧ acm (mgI M 7700 0) (mgI M 7800 0) 260 l
/-- a fault at q: seen by the component now, or by the first one that looks on -/
def FC (t : Nat) (B : Nat → Nat) (C1 : Mem) (q : Nat) (C : Mem) : Prop := (EqOff rdC C1 C ∧ TxC C1 C) ∧ (∃ c, c ≤ 121 ∧ mgI C 1001 2 0 = nI c) ∧ (mgI C 704 0 0 = nI q ∨ (mgI C 704 0 0 = -1 ∧ mgI C 703 0 0 = nI q ∧ q < t ∧ 48 ≤ B q ∧ B q ≤ 57))
def FM (t : Nat) (M1 : Mem) (q a : Nat) (M : Mem) : Prop := (EqOff rdM M1 M ∧ LoM M1 M) ∧ mgI M 1235 0 0 = nI q ∧ mgI M 1237 0 0 = nI a ∧ ∃ p, p ≤ t ∧ mgI M 1234 0 0 = nI p
theorem txC_I {C1 C : Mem} (h : EqOff rdC C1 C ∧ TxC C1 C) {f i j : Nat} {v : Int32} (hf : rdC.contains f = true) (ho : (f ≠ 1001 ∧ f ≠ 4400) ∨ i = 2) : EqOff rdC C1 (msI C f i j v) ∧ TxC C1 (msI C f i j v) := by
  refine ⟨h.1.I hf, fun u hu => ⟨?_, fun k => ?_⟩⟩
  · rw [uI_I, if_neg (by omega)]; exact (h.2 u hu).1
  · rw [uI_I, if_neg (by omega)]; exact (h.2 u hu).2 k
theorem loM_I {M1 M : Mem} (h : EqOff rdM M1 M ∧ LoM M1 M) {f i j : Nat} {v : Int32} (hf : rdM.contains f = true) (ho : (f ≠ 7700 ∧ f ≠ 7800) ∨ 260 ≤ j) : EqOff rdM M1 (msI M f i j v) ∧ LoM M1 (msI M f i j v) := by
  refine ⟨h.1.I hf, fun k hk => ⟨?_, ?_⟩⟩
  · rw [uI_I, if_neg (by omega)]; exact (h.2 k hk).1
  · rw [uI_I, if_neg (by omega)]; exact (h.2 k hk).2
/-! texts of signs -/
def sgT : List (List Nat) := [[48, 49, 50, 51, 52, 53, 54, 55, 56, 57], [109, 119, 115, 110, 99, 104, 108], [40, 33, 45], [41], [124], [38], [60, 61, 62], [43, 45], [42, 47, 37], [63], [59]]
def sgB (th b : Nat) : Bool := (sgT.getD th []).contains b
theorem io_t : ∀ th, th < 11 → ∀ b, b < 256 → (fJ0_indexOf_0f7a4 th (((nI b).toUInt32 % 65536).toInt32) M00).map (fun r => decide (r < 0)) = some (!(sgB th b)) := by decide +kernel
def sz (t : Nat) (B : Nat → Nat) (p th : Nat) : Bool := decide (p < t) && sgB th (B p)
def lk (t : Nat) (B : Nat → Nat) (p : Nat) : Int32 := if p < t then (nI (B p)).toInt8.toInt32 else -1
theorem sz_t {t : Nat} {B : Nat → Nat} {p th : Nat} : sz t B p th = true ↔ p < t ∧ sgB th (B p) = true := by
  unfold sz
  simp
theorem sees_q {t : Nat} {B : Nat → Nat} {C1 M1 C : Mem} (hT : TaB t B C1 M1) (h : EqOff rdC C1 C) {p th : Nat} (hp : p ≤ t) (h3 : mgI C 703 0 0 = nI p) (hth : th < 11) : fX7_sees th C = some (if sz t B p th then 1 else 0) := by
  obtain ⟨t0, t1, -, t3⟩ := hT
  have k := h.on (K := [701, 3900]) rfl
  unfold fX7_sees
  rw [h3, (k 701 (by decide)).1, t1]
  by_cases hpt : p < t
  · rw [if_neg (nI_ge hpt (by omega)), if_neg (show ¬ (120 : Int32) ≤ nI p from nI_ge (b := 120) (by omega) (by decide)), ix_n (show p < 120 by omega) (by omega), nI_clamp (by omega), (k 3900 (by decide)).1, (t3 p hpt).2.1, io_M]
    have hi := io_t th hth (B p) (t3 p hpt).1
    cases e : fJ0_indexOf_0f7a4 th (((nI (B p)).toUInt32 % 65536).toInt32) M00 with
    | none => rw [e] at hi; cases hi
    | some r =>
      rw [e] at hi
      have hi2 : decide (r < 0) = !(sgB th (B p)) := Option.some.inj hi
      rw [bd_u]
      have e2 : sz t B p th = sgB th (B p) := by unfold sz; simp [hpt]
      rw [e2]
      cases hs : sgB th (B p)
      · rw [hs] at hi2
        rw [if_pos (of_decide_eq_true hi2)]
        rfl
      · rw [hs] at hi2
        rw [if_neg (of_decide_eq_false hi2)]
        rfl
  · rw [if_pos (nI_le (by omega) (by omega))]
    have e2 : sz t B p th = false := by unfold sz; simp [hpt]
    rw [e2]
    rfl
theorem look_q {t : Nat} {B : Nat → Nat} {C1 M1 M : Mem} (hT : TaB t B C1 M1) (h : EqOff rdM M1 M) {p : Nat} (hp : p ≤ t) (h3 : mgI M 1234 0 0 = nI p) : fX12_look M = some (lk t B p) := by
  obtain ⟨t0, -, t2, t3⟩ := hT
  have k := h.on (K := [1233, 7600]) rfl
  unfold fX12_look lk
  rw [h3, (k 1233 (by decide)).1, t2]
  by_cases hpt : p < t
  · rw [if_neg (nI_ge hpt (by omega)), ix_n (show p < 120 by omega) (by omega), nI_clamp (by omega), (k 7600 (by decide)).1, (t3 p hpt).2.2, if_pos hpt]
  · rw [if_pos (nI_le (by omega) (by omega)), if_neg hpt]
theorem sb_lo : ∀ b, b < 128 → (nI b).toInt8.toInt32 = nI b := by decide +kernel
theorem sb_hi : ∀ b, b < 256 → 128 ≤ b → (nI b).toInt8.toInt32 < 0 := by decide +kernel
theorem lk_s {t : Nat} {B : Nat → Nat} {p : Nat} (hB : p < t → B p < 256) {s : Nat} (hs : s < 128) : lk t B p = nI s ↔ p < t ∧ B p = s := by
  unfold lk
  by_cases hpt : p < t
  · rw [if_pos hpt]
    rcases Nat.lt_or_ge (B p) 128 with hb | hb
    · rw [sb_lo _ hb, nI_eq (by omega) (by omega)]
      exact ⟨fun z => ⟨hpt, z⟩, fun z => z.2⟩
    · have h0 := sb_hi _ (hB hpt) hb
      exact ⟨fun z => by rw [z] at h0; exact absurd h0 (nI_pos (by omega)), fun z => by omega⟩
  · rw [if_neg hpt]
    refine ⟨fun z => ?_, fun z => absurd z.1 hpt⟩
    have h0 : (-1 : Int32) < 0 := by decide
    rw [z] at h0
    exact absurd h0 (nI_pos (by omega))
theorem nmo_y : ∀ k, k < 7 → fX12_nameOf ((nI (nmB k)).toInt8.toInt32) = nI k := by decide +kernel
theorem nmo_n : ∀ b, b < 256 → sgB 1 b = false → fX12_nameOf ((nI b).toInt8.toInt32) = -1 := by decide +kernel
theorem dig_q : ∀ b, b < 256 → fX12_in ((nI b).toInt8.toInt32) (48 : Int32) (57 : Int32) = if sgB 0 b then 1 else 0 := by decide +kernel
theorem dig_r : ∀ b, b < 256 → sgB 0 b = true → 48 ≤ b ∧ b ≤ 57 := by decide +kernel
theorem dig_o : ∀ b, 48 ≤ b → b ≤ 57 → ∀ th, th < 11 → sgB th b = decide (th = 0) := by
  intro b h1 h2
  have h : b = 48 ∨ b = 49 ∨ b = 50 ∨ b = 51 ∨ b = 52 ∨ b = 53 ∨ b = 54 ∨ b = 55 ∨ b = 56 ∨ b = 57 := by omega
  rcases h with rfl | rfl | rfl | rfl | rfl | rfl | rfl | rfl | rfl | rfl <;> decide +kernel
theorem nmB_x {b : Nat} (h : sgB 1 b = true) : ∃ k, k < 7 ∧ b = nmB k := by
  have h2 : b = 109 ∨ b = 119 ∨ b = 115 ∨ b = 110 ∨ b = 99 ∨ b = 104 ∨ b = 108 := by simpa [sgB, sgT] using h
  rcases h2 with rfl | rfl | rfl | rfl | rfl | rfl | rfl
  · exact ⟨0, by omega, rfl⟩
  · exact ⟨1, by omega, rfl⟩
  · exact ⟨2, by omega, rfl⟩
  · exact ⟨3, by omega, rfl⟩
  · exact ⟨4, by omega, rfl⟩
  · exact ⟨5, by omega, rfl⟩
  · exact ⟨6, by omega, rfl⟩
theorem nmB_o : ∀ k, k < 7 → sgB 0 (nmB k) = false ∧ nmB k < 128 := by decide +kernel
theorem lk_in {t : Nat} {B : Nat → Nat} {p : Nat} (hB : p < t → B p < 256) : fX12_in (lk t B p) (48 : Int32) (57 : Int32) = if sz t B p 0 then 1 else 0 := by
  unfold lk sz
  by_cases hpt : p < t
  · rw [if_pos hpt, dig_q _ (hB hpt)]
    simp [hpt]
  · rw [if_neg hpt]
    simp [hpt]
    decide +kernel
/-! what they do, one thing at a time -/
theorem mNarS : ∀ s, s < 128 → vp_nar .byte ((nI s).toInt8.toInt32) = nI s := fun s hs => by rw [pk_vb, sb_lo s hs]
theorem add_q {C1 C : Mem} {p : Nat} {l : List Tok} (h : PC C1 p l C) (hl : l.length < 121) (x : Tok) {v : Int32} (hv : v = cI x) : ∃ C', fX10_add 2 v C = some ((), C') ∧ PC C1 p (l ++ [x]) C' := by
  subst hv
  obtain ⟨h1, h2, h3, h4, h5⟩ := h
  unfold fX10_add
  rw [h4, if_neg (show ¬ (121 : Int32) ≤ nI l.length from nI_ge (b := 121) hl (by decide)), ix_n hl (by omega)]
  simp only [nm_u, uI_I, uL_L, uR_R, uI_L, uI_R, uL_I, uL_R, uR_I, uR_L, Nat.reduceEqDiff, false_and, and_false, true_and, and_true, ↓reduceIte, h4, nI_clamp (show l.length < 2 ^ 31 by omega), nI_1]
  refine ⟨_, rfl, txC_I (txC_I h1 rfl (Or.inr rfl)) rfl (Or.inr rfl), by simp only [uI_I, uL_L, uR_R, uI_L, uI_R, uL_I, uL_R, uR_I, uR_L, Nat.reduceEqDiff, false_and, and_false, true_and, and_true, ↓reduceIte]; exact h2, by simp only [uI_I, uL_L, uR_R, uI_L, uI_R, uL_I, uL_R, uR_I, uR_L, Nat.reduceEqDiff, false_and, and_false, true_and, and_true, ↓reduceIte]; exact h3, by simp only [uI_I, uL_L, uR_R, uI_L, uI_R, uL_I, uL_R, uR_I, uR_L, Nat.reduceEqDiff, false_and, and_false, true_and, and_true, ↓reduceIte]; simp, ?_⟩
  rw [itm_app]
  refine ⟨h5.cong (fun j hj => ?_), ?_, trivial⟩
  · simp only [uI_I, uL_L, uR_R, uI_L, uI_R, uL_I, uL_R, uR_I, uR_L, Nat.reduceEqDiff, false_and, and_false, true_and, and_true, ↓reduceIte]
    rw [if_neg (by omega)]
  · simp only [uI_I, uL_L, uR_R, uI_L, uI_R, uL_I, uL_R, uR_I, uR_L, Nat.reduceEqDiff, false_and, and_false, true_and, and_true, ↓reduceIte]
    rw [if_pos (by omega)]
theorem addF_q {t : Nat} {B : Nat → Nat} {C1 C : Mem} {q : Nat} (h : FC t B C1 q C) (v : Int32) : ∃ C', fX10_add 2 v C = some ((), C') ∧ FC t B C1 q C' := by
  obtain ⟨h1, ⟨c, hc, h4⟩, h5⟩ := h
  unfold fX10_add
  rw [h4]
  by_cases hl : c < 121
  · rw [if_neg (show ¬ (121 : Int32) ≤ nI c from nI_ge (b := 121) hl (by decide)), ix_n hl (by omega)]
    simp only [nm_u, uI_I, uL_L, uR_R, uI_L, uI_R, uL_I, uL_R, uR_I, uR_L, Nat.reduceEqDiff, false_and, and_false, true_and, and_true, ↓reduceIte, h4, nI_clamp (show c < 2 ^ 31 by omega), nI_1]
    exact ⟨_, rfl, txC_I (txC_I h1 rfl (Or.inr rfl)) rfl (Or.inr rfl), ⟨c + 1, by omega, by simp only [uI_I, uL_L, uR_R, uI_L, uI_R, uL_I, uL_R, uR_I, uR_L, Nat.reduceEqDiff, false_and, and_false, true_and, and_true, ↓reduceIte]⟩, by simp only [uI_I, uL_L, uR_R, uI_L, uI_R, uL_I, uL_R, uR_I, uR_L, Nat.reduceEqDiff, false_and, and_false, true_and, and_true, ↓reduceIte]; exact h5⟩
  · rw [if_pos (show (121 : Int32) ≤ nI c from nI_le (a := 121) (by omega) (by omega))]
    exact ⟨C, rfl, h1, ⟨c, hc, h4⟩, h5⟩
theorem lay_q {M1 M : Mem} {p op : Nat} {l : List Tok} (h : PM M1 p op l M) (hl : l.length < 130) (x : Tok) {v w : Int32} (hv : v = xM x) (hw : w = yM x) (hx : vp_nar .byte ((xM x).toInt8.toInt32) = xM x) : ∃ M', fX12_lay v w M = some ((), M') ∧ PM M1 p op (l ++ [x]) M' := by
  subst hv hw
  obtain ⟨h1, h2, h3, h4, h5, h6⟩ := h
  have e1 : (260 : Int32) + nI l.length = nI (260 + l.length) := by rw [show (260 : Int32) = nI 260 from rfl, nI_add]
  unfold fX12_lay
  simp only [nm_u, uI_I, uL_L, uR_R, uI_L, uI_R, uL_I, uL_R, uR_I, uR_L, Nat.reduceEqDiff, false_and, and_false, true_and, and_true, ↓reduceIte]
  rw [h5, e1, ix_n (show 260 + l.length < 390 by omega) (by omega), ix_n (show 260 + l.length < 390 by omega) (by omega), nI_clamp (by omega), hx, nI_1]
  refine ⟨_, rfl, loM_I (loM_I (loM_I h1 rfl (Or.inr (by omega))) rfl (Or.inr (by omega))) rfl (Or.inl (by decide)), by simp only [uI_I, uL_L, uR_R, uI_L, uI_R, uL_I, uL_R, uR_I, uR_L, Nat.reduceEqDiff, false_and, and_false, true_and, and_true, ↓reduceIte]; exact h2, by simp only [uI_I, uL_L, uR_R, uI_L, uI_R, uL_I, uL_R, uR_I, uR_L, Nat.reduceEqDiff, false_and, and_false, true_and, and_true, ↓reduceIte]; exact h3, by simp only [uI_I, uL_L, uR_R, uI_L, uI_R, uL_I, uL_R, uR_I, uR_L, Nat.reduceEqDiff, false_and, and_false, true_and, and_true, ↓reduceIte]; exact h4, by simp only [uI_I, uL_L, uR_R, uI_L, uI_R, uL_I, uL_R, uR_I, uR_L, Nat.reduceEqDiff, false_and, and_false, true_and, and_true, ↓reduceIte]; simp, ?_⟩
  rw [acm_app]
  refine ⟨h6.cong (fun j hj => ?_), ?_, ?_, trivial⟩
  · simp only [uI_I, uL_L, uR_R, uI_L, uI_R, uL_I, uL_R, uR_I, uR_L, Nat.reduceEqDiff, false_and, and_false, true_and, and_true, ↓reduceIte]
    rw [if_neg (by omega), if_neg (by omega)]
    exact ⟨rfl, rfl⟩
  · simp only [uI_I, uL_L, uR_R, uI_L, uI_R, uL_I, uL_R, uR_I, uR_L, Nat.reduceEqDiff, false_and, and_false, true_and, and_true, ↓reduceIte]
  · simp only [uI_I, uL_L, uR_R, uI_L, uI_R, uL_I, uL_R, uR_I, uR_L, Nat.reduceEqDiff, false_and, and_false, true_and, and_true, ↓reduceIte]
theorem layF_q {t : Nat} {M1 M : Mem} {q a : Nat} (h : FM t M1 q a M) (ha : a < 130) (v w : Int32) : ∃ M', fX12_lay v w M = some ((), M') ∧ FM t M1 q (a + 1) M' := by
  obtain ⟨h1, h3, h5, p, hp, h2⟩ := h
  have e1 : (260 : Int32) + nI a = nI (260 + a) := by rw [show (260 : Int32) = nI 260 from rfl, nI_add]
  unfold fX12_lay
  simp only [nm_u, uI_I, uL_L, uR_R, uI_L, uI_R, uL_I, uL_R, uR_I, uR_L, Nat.reduceEqDiff, false_and, and_false, true_and, and_true, ↓reduceIte]
  rw [h5, e1, ix_n (show 260 + a < 390 by omega) (by omega), ix_n (show 260 + a < 390 by omega) (by omega), nI_clamp (by omega), nI_1]
  exact ⟨_, rfl, loM_I (loM_I (loM_I h1 rfl (Or.inr (by omega))) rfl (Or.inr (by omega))) rfl (Or.inl (by decide)), by simp only [uI_I, uL_L, uR_R, uI_L, uI_R, uL_I, uL_R, uR_I, uR_L, Nat.reduceEqDiff, false_and, and_false, true_and, and_true, ↓reduceIte]; exact h3, by simp only [uI_I, uL_L, uR_R, uI_L, uI_R, uL_I, uL_R, uR_I, uR_L, Nat.reduceEqDiff, false_and, and_false, true_and, and_true, ↓reduceIte], p, hp, by simp only [uI_I, uL_L, uR_R, uI_L, uI_R, uL_I, uL_R, uR_I, uR_L, Nat.reduceEqDiff, false_and, and_false, true_and, and_true, ↓reduceIte]; exact h2⟩
theorem adC_q {C1 C : Mem} {p : Nat} {l : List Tok} (h : PC C1 p l C) (p' : Nat) : PC C1 p' l (msI C 703 0 0 (nI p')) := by
  obtain ⟨h1, h2, h3, h4, h5⟩ := h
  refine ⟨txC_I h1 rfl (Or.inl (by decide)), by simp only [uI_I, uL_L, uR_R, uI_L, uI_R, uL_I, uL_R, uR_I, uR_L, Nat.reduceEqDiff, false_and, and_false, true_and, and_true, ↓reduceIte], by simp only [uI_I, uL_L, uR_R, uI_L, uI_R, uL_I, uL_R, uR_I, uR_L, Nat.reduceEqDiff, false_and, and_false, true_and, and_true, ↓reduceIte]; exact h3, by simp only [uI_I, uL_L, uR_R, uI_L, uI_R, uL_I, uL_R, uR_I, uR_L, Nat.reduceEqDiff, false_and, and_false, true_and, and_true, ↓reduceIte]; exact h4, h5.cong (fun j hj => ?_)⟩
  simp only [uI_I, uL_L, uR_R, uI_L, uI_R, uL_I, uL_R, uR_I, uR_L, Nat.reduceEqDiff, false_and, and_false, true_and, and_true, ↓reduceIte]
theorem adM_q {M1 M : Mem} {p op : Nat} {l : List Tok} (h : PM M1 p op l M) (p' : Nat) : PM M1 p' op l (msI M 1234 0 0 (nI p')) := by
  obtain ⟨h1, h2, h3, h4, h5, h6⟩ := h
  refine ⟨loM_I h1 rfl (Or.inl (by decide)), by simp only [uI_I, uL_L, uR_R, uI_L, uI_R, uL_I, uL_R, uR_I, uR_L, Nat.reduceEqDiff, false_and, and_false, true_and, and_true, ↓reduceIte], by simp only [uI_I, uL_L, uR_R, uI_L, uI_R, uL_I, uL_R, uR_I, uR_L, Nat.reduceEqDiff, false_and, and_false, true_and, and_true, ↓reduceIte]; exact h3, by simp only [uI_I, uL_L, uR_R, uI_L, uI_R, uL_I, uL_R, uR_I, uR_L, Nat.reduceEqDiff, false_and, and_false, true_and, and_true, ↓reduceIte]; exact h4, by simp only [uI_I, uL_L, uR_R, uI_L, uI_R, uL_I, uL_R, uR_I, uR_L, Nat.reduceEqDiff, false_and, and_false, true_and, and_true, ↓reduceIte]; exact h5, h6.cong (fun j hj => ⟨?_, ?_⟩)⟩ <;> simp only [uI_I, uL_L, uR_R, uI_L, uI_R, uL_I, uL_R, uR_I, uR_L, Nat.reduceEqDiff, false_and, and_false, true_and, and_true, ↓reduceIte]
theorem opM_q {M1 M : Mem} {p op : Nat} {l : List Tok} (h : PM M1 p op l M) (op' : Nat) : PM M1 p op' l (msI M 1236 0 0 (nI op')) := by
  obtain ⟨h1, h2, h3, h4, h5, h6⟩ := h
  refine ⟨loM_I h1 rfl (Or.inl (by decide)), by simp only [uI_I, uL_L, uR_R, uI_L, uI_R, uL_I, uL_R, uR_I, uR_L, Nat.reduceEqDiff, false_and, and_false, true_and, and_true, ↓reduceIte]; exact h2, by simp only [uI_I, uL_L, uR_R, uI_L, uI_R, uL_I, uL_R, uR_I, uR_L, Nat.reduceEqDiff, false_and, and_false, true_and, and_true, ↓reduceIte]; exact h3, by simp only [uI_I, uL_L, uR_R, uI_L, uI_R, uL_I, uL_R, uR_I, uR_L, Nat.reduceEqDiff, false_and, and_false, true_and, and_true, ↓reduceIte], by simp only [uI_I, uL_L, uR_R, uI_L, uI_R, uL_I, uL_R, uR_I, uR_L, Nat.reduceEqDiff, false_and, and_false, true_and, and_true, ↓reduceIte]; exact h5, h6.cong (fun j hj => ⟨?_, ?_⟩)⟩ <;> simp only [uI_I, uL_L, uR_R, uI_L, uI_R, uL_I, uL_R, uR_I, uR_L, Nat.reduceEqDiff, false_and, and_false, true_and, and_true, ↓reduceIte]
theorem opF_q {t : Nat} {M1 M : Mem} {q a : Nat} (h : FM t M1 q a M) (v : Int32) : FM t M1 q a (msI M 1236 0 0 v) := by
  obtain ⟨h1, h3, h5, p, hp, h2⟩ := h
  exact ⟨loM_I h1 rfl (Or.inl (by decide)), by simp only [uI_I, uL_L, uR_R, uI_L, uI_R, uL_I, uL_R, uR_I, uR_L, Nat.reduceEqDiff, false_and, and_false, true_and, and_true, ↓reduceIte]; exact h3, by simp only [uI_I, uL_L, uR_R, uI_L, uI_R, uL_I, uL_R, uR_I, uR_L, Nat.reduceEqDiff, false_and, and_false, true_and, and_true, ↓reduceIte]; exact h5, p, hp, by simp only [uI_I, uL_L, uR_R, uI_L, uI_R, uL_I, uL_R, uR_I, uR_L, Nat.reduceEqDiff, false_and, and_false, true_and, and_true, ↓reduceIte]; exact h2⟩
theorem ftC_q {t : Nat} {B : Nat → Nat} {C1 C : Mem} {p : Nat} {l : List Tok} (h : PC C1 p l C) (hl : l.length ≤ 121) : FC t B C1 p (msI C 704 0 0 (nI p)) := by
  obtain ⟨h1, h2, h3, h4, h5⟩ := h
  exact ⟨txC_I h1 rfl (Or.inl (by decide)), ⟨l.length, hl, by simp only [uI_I, uL_L, uR_R, uI_L, uI_R, uL_I, uL_R, uR_I, uR_L, Nat.reduceEqDiff, false_and, and_false, true_and, and_true, ↓reduceIte]; exact h4⟩, Or.inl (by simp only [uI_I, uL_L, uR_R, uI_L, uI_R, uL_I, uL_R, uR_I, uR_L, Nat.reduceEqDiff, false_and, and_false, true_and, and_true, ↓reduceIte])⟩
theorem wrong_q {t : Nat} {M1 M : Mem} {p op : Nat} {l : List Tok} (h : PM M1 p op l M) (hp : p ≤ t) : ∃ M', fX12_wrong M = some ((), M') ∧ FM t M1 p l.length M' := by
  obtain ⟨h1, h2, h3, h4, h5, h6⟩ := h
  unfold fX12_wrong
  rw [h3, if_neg (show ¬ (0 : Int32) ≤ -1 by decide), nm_u, nm_u, h2]
  exact ⟨_, rfl, loM_I h1 rfl (Or.inl (by decide)), by simp only [uI_I, uL_L, uR_R, uI_L, uI_R, uL_I, uL_R, uR_I, uR_L, Nat.reduceEqDiff, false_and, and_false, true_and, and_true, ↓reduceIte], by simp only [uI_I, uL_L, uR_R, uI_L, uI_R, uL_I, uL_R, uR_I, uR_L, Nat.reduceEqDiff, false_and, and_false, true_and, and_true, ↓reduceIte]; exact h5, p, hp, by simp only [uI_I, uL_L, uR_R, uI_L, uI_R, uL_I, uL_R, uR_I, uR_L, Nat.reduceEqDiff, false_and, and_false, true_and, and_true, ↓reduceIte]; exact h2⟩
theorem m1_ng : ¬ (0 : Int32) ≤ -1 := by decide
/-- behind a fault the component stops -/
theorem FC.stop {t : Nat} {B : Nat → Nat} {C1 M1 C : Mem} {q : Nat} (hT : TaB t B C1 M1) (h : FC t B C1 q C) (hq : q ≤ t) {th : Nat} (h0 : 0 < th) (hth : th < 11) : 0 ≤ mgI C 704 0 0 ∨ (¬ 0 ≤ mgI C 704 0 0 ∧ fX7_sees th C = some 0) := by
  have ht := hT.1
  rcases h.2.2 with h1 | ⟨h1, h2, h3, h4, h5⟩
  · exact Or.inl (by rw [h1]; exact nI_pos' (by omega))
  · refine Or.inr ⟨by rw [h1]; exact m1_ng, ?_⟩
    rw [sees_q hT h.1.1 hq h2 hth]
    have e : sz t B q th = false := by
      unfold sz
      rw [dig_o _ h4 h5 th hth]
      simp
      omega
    rw [e]
    rfl
/-! what a part of a reader owes -/
def PO (t : Nat) (B : Nat → Nat) (C1 M1 : Mem) (p op : Nat) (lC lM : List Tok) (d : Nat) (x y : Option (Unit × Mem)) : Prop := ∃ C' M', x = some ((), C') ∧ y = some ((), M') ∧
  ((∃ l p', WF l d ∧ p + l.length ≤ p' ∧ p < p' ∧ p' ≤ t ∧ PC C1 p' (lC ++ l) C' ∧ PM M1 p' op (lM ++ l) M') ∨ (∃ q a, q ≤ t ∧ a + p ≤ t + 1 + lM.length ∧ FC t B C1 q C' ∧ FM t M1 q a M'))
def Sub (t : Nat) (B : Nat → Nat) (C1 M1 : Mem) (op d : Nat) (f g : Mem → Option (Unit × Mem)) : Prop := ∀ p lC lM C M, p ≤ t → lC.length ≤ p → lM.length ≤ p → PC C1 p lC C → PM M1 p op lM M → PO t B C1 M1 p op lC lM d (f C) (g M)
def LoopM (F : Nat → Mem → Option (Unit × Mem)) (g : Mem → Option (Unit × Mem)) (sg : List Nat) : Prop := ∀ n M, (0 ≤ mgI M 1235 0 0 → F (n + 1) M = some ((), M)) ∧ (¬ 0 ≤ mgI M 1235 0 0 → ∀ b, fX12_look M = some b →
  ((∀ s ∈ sg, b ≠ nI s) → F (n + 1) M = some ((), M)) ∧ (∀ s ∈ sg, b = nI s → F (n + 1) M = (nm (mgI M 1234 0 0 + (1 : Int32)) fun v => nm (msI M 1234 0 0 v) fun M' => bE (g M') fun _ M2 => bE (fX12_lay (nI s) (0 : Int32) M2) fun _ M3 => F n M3)))
theorem lm_prod (op : Mem → Option (Unit × Mem)) : LoopM (fX12_product_l4 op) op [42, 47, 37] := by
  intro n M
  refine ⟨fun h => ?_, fun h b hb => ⟨fun hn => ?_, fun s hs e => ?_⟩⟩
  · simp only [fX12_product_l4, fX12_product_b4]
    rw [if_pos h]
  · simp only [fX12_product_l4, fX12_product_b4]
    rw [if_neg h, hb, bd_u, if_neg (show ¬ b = (42 : Int32) from hn 42 (by simp)), bd_u, if_neg (show ¬ b = (47 : Int32) from hn 47 (by simp)), bd_u, if_neg (show ¬ b = (37 : Int32) from hn 37 (by simp))]
  · have h2 : s = 42 ∨ s = 47 ∨ s = 37 := by simpa using hs
    subst e
    simp only [fX12_product_l4, fX12_product_b4]
    rcases h2 with rfl | rfl | rfl
    · rw [if_neg h, hb, bd_u, if_pos (show nI 42 = (42 : Int32) from rfl), bd_u]
    · rw [if_neg h, hb, bd_u, if_neg (show ¬ nI 47 = (42 : Int32) by decide), bd_u, if_pos (show nI 47 = (47 : Int32) from rfl), bd_u]
    · rw [if_neg h, hb, bd_u, if_neg (show ¬ nI 37 = (42 : Int32) by decide), bd_u, if_neg (show ¬ nI 37 = (47 : Int32) by decide), bd_u, if_pos (show nI 37 = (37 : Int32) from rfl), bd_u]
theorem lm_sum (op : Mem → Option (Unit × Mem)) : LoopM (fX12_sum_l4 op) (fX12_product op) [43, 45] := by
  intro n M
  refine ⟨fun h => ?_, fun h b hb => ⟨fun hn => ?_, fun s hs e => ?_⟩⟩
  · simp only [fX12_sum_l4, fX12_sum_b4]
    rw [if_pos h]
  · simp only [fX12_sum_l4, fX12_sum_b4]
    rw [if_neg h, hb, bd_u, if_neg (show ¬ b = (43 : Int32) from hn 43 (by simp)), bd_u, if_neg (show ¬ b = (45 : Int32) from hn 45 (by simp))]
  · have h2 : s = 43 ∨ s = 45 := by simpa using hs
    subst e
    simp only [fX12_sum_l4, fX12_sum_b4]
    rcases h2 with rfl | rfl
    · rw [if_neg h, hb, bd_u, if_pos (show nI 43 = (43 : Int32) from rfl), bd_u]
    · rw [if_neg h, hb, bd_u, if_neg (show ¬ nI 45 = (43 : Int32) by decide), bd_u, if_pos (show nI 45 = (45 : Int32) from rfl), bd_u]
theorem lm_both (op : Mem → Option (Unit × Mem)) : LoopM (fX12_both_l4 op) (fX12_compared op) [38] := by
  intro n M
  refine ⟨fun h => ?_, fun h b hb => ⟨fun hn => ?_, fun s hs e => ?_⟩⟩
  · simp only [fX12_both_l4, fX12_both_b4]
    rw [if_pos h]
  · simp only [fX12_both_l4, fX12_both_b4]
    rw [if_neg h, hb, bd_u, if_neg (show ¬ b = (38 : Int32) from hn 38 (by simp))]
  · have h2 : s = 38 := by simpa using hs
    subst e h2
    simp only [fX12_both_l4, fX12_both_b4]
    rw [if_neg h, hb, bd_u, if_pos (show nI 38 = (38 : Int32) from rfl)]
    rfl
theorem lm_either (op : Mem → Option (Unit × Mem)) : LoopM (fX12_either_l4 op) (fX12_both op) [124] := by
  intro n M
  refine ⟨fun h => ?_, fun h b hb => ⟨fun hn => ?_, fun s hs e => ?_⟩⟩
  · simp only [fX12_either_l4, fX12_either_b4]
    rw [if_pos h]
  · simp only [fX12_either_l4, fX12_either_b4]
    rw [if_neg h, hb, bd_u, if_neg (show ¬ b = (124 : Int32) from hn 124 (by simp))]
  · have h2 : s = 124 := by simpa using hs
    subst e h2
    simp only [fX12_either_l4, fX12_either_b4]
    rw [if_neg h, hb, bd_u, if_pos (show nI 124 = (124 : Int32) from rfl)]
    rfl
theorem sgo : ∀ lv, lv < 5 → fX7_signsOf (nI lv) = 4 + lv := by decide +kernel
theorem sg_in : ∀ lv, lv < 5 → ∀ b, b < 256 → sgB (4 + lv) b = true → b ∈ sgs ∧ b < 128 := by decide +kernel
theorem sg_lt : ∀ lv, lv < 5 → ∀ s ∈ sgT.getD (4 + lv) [], s < 128 := by decide +kernel
theorem sgB_m {th b : Nat} : sgB th b = true ↔ b ∈ sgT.getD th [] := by
  unfold sgB
  simp
/-- a level's loop stops behind a fault -/
theorem l34_F {t : Nat} {B : Nat → Nat} {C1 M1 C : Mem} {q : Nat} (hT : TaB t B C1 M1) (h : FC t B C1 q C) (hq : q ≤ t) {lv : Nat} (hlv : lv < 5) (rp : Int32 → Int32 → Mem → Option (Unit × Mem)) (x2 k : Int32) (n : Nat) : fX7_readPart_l34 (nI lv) rp x2 (n + 1) k C = some ((), C) := by
  simp only [fX7_readPart_l34, fX7_readPart_b34]
  rw [sgo lv hlv]
  rcases h.stop hT hq (th := 4 + lv) (by omega) (by omega) with h1 | ⟨h1, h2⟩
  · rw [if_pos h1, ite_self]
  · rw [if_neg h1, h2, bd_u, if_pos rfl, ite_self]
theorem l21_F {t : Nat} {B : Nat → Nat} {C1 M1 C : Mem} {q : Nat} (hT : TaB t B C1 M1) (h : FC t B C1 q C) (hq : q ≤ t) {lv : Nat} (hlv : lv < 5) (rp : Int32 → Int32 → Mem → Option (Unit × Mem)) (x2 k : Int32) (n : Nat) : fX7_readPart_l34_21 (nI lv) rp x2 (n + 1) k C = some ((), C) := by
  simp only [fX7_readPart_l34_21, fX7_readPart_b34_21]
  rw [sgo lv hlv]
  rcases h.stop hT hq (th := 4 + lv) (by omega) (by omega) with h1 | ⟨h1, h2⟩
  · rw [if_pos h1, ite_self]
  · rw [if_neg h1, h2, bd_u, if_pos rfl, ite_self]
theorem FM.ge {t : Nat} {M1 M : Mem} {q a : Nat} (h : FM t M1 q a M) (hq : q ≤ t) (ht : t ≤ 120) : 0 ≤ mgI M 1235 0 0 := by
  rw [h.2.1]
  exact nI_pos' (by omega)
/-- a level's loop: both sides -/
theorem lp_q {t : Nat} {B : Nat → Nat} {C1 M1 : Mem} (hT : TaB t B C1 M1) {rp : Int32 → Int32 → Mem → Option (Unit × Mem)} {lv op d : Nat} (hlv : lv < 5) {F : Nat → Mem → Option (Unit × Mem)} {g : Mem → Option (Unit × Mem)} (hF : LoopM F g (sgT.getD (4 + lv) [])) (hsub : Sub t B C1 M1 op d (rp (nI (lv + 1)) (nI op)) g) (hd : 1 ≤ d) {p0 : Nat} {lC lM : List Tok} (hlC : lC.length ≤ p0) (hlM : lM.length ≤ p0) :
    ∀ (m p : Nat) (l : List Tok) (C M : Mem) (k nC n : Nat), t - p ≤ m → m < nC → m < n → p ≤ t → k ≤ p → p0 + l.length ≤ p → p0 < p → WF l (d + 1) → PC C1 p (lC ++ l) C → PM M1 p op (lM ++ l) M → PO t B C1 M1 p0 op lC lM (d + 1) (fX7_readPart_l34 (nI lv) rp (nI op) nC (nI k) C) (F n M) := by
  have ht := hT.1
  intro m
  induction m using Nat.strongRecOn with
  | ind m ih =>
    intro p l C M k nC n hm hnC hn hp hk hl hp0 hw pc pm
    obtain ⟨nC, rfl⟩ : ∃ z, nC = z + 1 := ⟨nC - 1, by omega⟩
    obtain ⟨n, rfl⟩ : ∃ z, n = z + 1 := ⟨n - 1, by omega⟩
    obtain ⟨f1, f2⟩ := hF n M
    have hM5 : ¬ 0 ≤ mgI M 1235 0 0 := by rw [pm.2.2.1]; exact m1_ng
    have hC4 : ¬ 0 ≤ mgI C 704 0 0 := by rw [pc.2.2.1]; exact m1_ng
    have hlk := look_q hT pm.1.1 hp pm.2.1
    have hse := sees_q hT pc.1.1 hp pc.2.1 (th := 4 + lv) (by omega)
    have hB : p < t → B p < 256 := fun z => (hT.2.2.2 p z).1
    obtain ⟨f3, f4⟩ := f2 hM5 _ hlk
    have EC : fX7_readPart_l34 (nI lv) rp (nI op) (nC + 1) (nI k) C = fX7_readPart_b34 (nI lv) rp (nI op) (fX7_readPart_l34 (nI lv) rp (nI op) nC) (nI k) C := rfl
    cases hz : sz t B p (4 + lv) with
    | false =>
      rw [hz] at hse
      refine ⟨C, M, ?_, f3 (fun s hs e => ?_), Or.inl ⟨l, p, hw, hl, hp0, hp, pc, pm⟩⟩
      · rw [EC]
        unfold fX7_readPart_b34
        rw [sgo lv hlv, if_neg hC4, hse]
        simp only [bd_u, if_true, ite_self, Bool.false_eq_true, if_false]
      · have h2 := (lk_s hB (sg_lt lv hlv s hs)).mp e
        have h3 : sz t B p (4 + lv) = true := sz_t.mpr ⟨h2.1, sgB_m.mpr (by rw [h2.2]; exact hs)⟩
        rw [hz] at h3
        cases h3
    | true =>
      rw [hz] at hse
      obtain ⟨hpt, hb⟩ := sz_t.mp hz
      obtain ⟨hbs, hb128⟩ := sg_in lv hlv (B p) (hB hpt) hb
      have eM := f4 (B p) (sgB_m.mp hb) ((lk_s hB hb128).mpr ⟨hpt, rfl⟩)
      have eC : fX7_readPart_l34 (nI lv) rp (nI op) (nC + 1) (nI k) C = bE (rp (nI (lv + 1)) (nI op) (msI C 703 0 0 (nI (p + 1)))) fun u16 M17 => bE (fX10_add 2 (-nI (B p)) M17) fun u18 M19 => fX7_readPart_l34 (nI lv) rp (nI op) nC (nI (k + 1)) M19 := by
        rw [EC]
        unfold fX7_readPart_b34
        rw [if_neg (show ¬ (120 : Int32) ≤ nI k from nI_ge (b := 120) (by omega) (by decide)), if_neg hC4, sgo lv hlv, hse]
        simp only [bd_u, if_true]
        rw [if_neg one_ne, pc.2.1, ix_n (show p < 120 by omega) (by omega), nI_clamp (by omega), nI_1, nI_1, nI_1, ((pc.1.1).on (K := [3900]) rfl 3900 (by decide)).1, (hT.2.2.2 p hpt).2.1]
        simp only [nm_u]
      rw [eC, eM, pm.2.1, nI_1]
      simp only [nm_u]
      obtain ⟨C2, M2, s1, s2, s3⟩ := hsub (p + 1) (lC ++ l) (lM ++ l) _ _ hpt (by simp; omega) (by simp; omega) (adC_q pc (p + 1)) (adM_q pm (p + 1))
      rw [s1, s2]
      simp only [bE_u]
      rcases s3 with ⟨l', p', w', h1, h2, h3, pc', pm'⟩ | ⟨q, a, hq, ha, fc, fm⟩
      · obtain ⟨C3, a1, a2⟩ := add_q pc' (by simp; omega) (4, B p) (v := -nI (B p)) rfl
        obtain ⟨M3, b1, b2⟩ := lay_q pm' (by simp; omega) (4, B p) (v := nI (B p)) (w := 0) rfl rfl (mNarS _ hb128)
        rw [a1, b1]
        simp only [bE_u]
        have e1 : ∀ z : List Tok, z ++ l ++ l' ++ [(4, B p)] = z ++ (l ++ (l' ++ [(4, B p)])) := fun z => by simp [List.append_assoc]
        rw [e1] at a2 b2
        exact ih (m - 1) (by omega) p' (l ++ (l' ++ [(4, B p)])) C3 M3 (k + 1) nC n (by omega) (by omega) (by omega) h3 (by omega) (by simp; omega) (by omega) (hw.bin w' (by omega) (Nat.le_refl _) (Nat.le_refl _) hbs) a2 b2
      · have hlm : (lM ++ l).length = lM.length + l.length := List.length_append
        rw [hlm] at ha
        obtain ⟨C3, a1, a2⟩ := addF_q fc (-nI (B p))
        obtain ⟨M3, b1, b2⟩ := layF_q fm (by omega) (nI (B p)) 0
        rw [a1, b1]
        simp only [bE_u]
        obtain ⟨nC', rfl⟩ : ∃ z, nC = z + 1 := ⟨nC - 1, by omega⟩
        obtain ⟨n', rfl⟩ : ∃ z, n = z + 1 := ⟨n - 1, by omega⟩
        exact ⟨C3, M3, l34_F hT a2 hq hlv _ _ _ _, (hF n' M3).1 (b2.ge hq ht), Or.inr ⟨q, a + 1, hq, by omega, a2, b2⟩⟩
theorem FU_s (m : Nat) (h : m < 100000) : ∃ z, FU = z + m := ⟨FU - m, by have := FU_lt h; omega⟩
/-- a level -/
theorem lev_q {t : Nat} {B : Nat → Nat} {C1 M1 : Mem} (hT : TaB t B C1 M1) {n lv op d : Nat} (hlv : lv < 5) (h2 : lv ≠ 2) {F : Nat → Mem → Option (Unit × Mem)} {g : Mem → Option (Unit × Mem)} (hF : LoopM F g (sgT.getD (4 + lv) [])) (hsub : Sub t B C1 M1 op d (fX7_rd n 0 (nI (lv + 1)) (nI op)) g) (hd : 1 ≤ d) : Sub t B C1 M1 op (d + 1) (fX7_rd (n + 1) 0 (nI lv) (nI op)) (fun M => bE (g M) fun _ M2 => F FU M2) := by
  have ht := hT.1
  intro p lC lM C M hp hlC hlM pc pm
  have eC : fX7_rd (n + 1) 0 (nI lv) (nI op) C = bE (fX7_rd n 0 (nI (lv + 1)) (nI op) C) fun u2 M3 => fX7_readPart_l34 (nI lv) (fX7_rd n 0) (nI op) FU (nI 0) M3 := by
    show fX7_readPart (fX7_rd n 0) (fun x M => fX7_rd n 1 x 0 M) (nI lv) (nI op) C = _
    unfold fX7_readPart
    rw [if_pos (show nI lv < (5 : Int32) from nI_lt (b := 5) hlv (by decide)), nI_1, show (0 : Int32) = nI 0 from rfl]
    simp only [eq_false (show ¬ nI lv = (2 : Int32) from fun z => h2 ((nI_eq (by omega) (by omega)).mp z)), if_false]
  obtain ⟨C2, M2, s1, s2, s3⟩ := hsub p lC lM C M hp hlC hlM pc pm
  rw [eC]
  dsimp only
  rw [s1, s2]
  simp only [bE_u]
  rcases s3 with ⟨l, p', w', g1, g2, g3, pc', pm'⟩ | ⟨q, a, hq, ha, fc, fm⟩
  · exact lp_q hT hlv hF hsub hd hlC hlM (t - p') p' l C2 M2 0 FU FU (Nat.le_refl _) (FU_lt (by omega)) (FU_lt (by omega)) g3 (Nat.zero_le _) g1 g2 (w'.mono (Nat.le_succ _)) pc' pm'
  · obtain ⟨z, hz⟩ := FU_s 1 (by decide)
    rw [hz]
    exact ⟨C2, M2, l34_F hT fc hq hlv _ _ _ _, (hF z M2).1 (fm.ge hq ht), Or.inr ⟨q, a, hq, ha, fc, fm⟩⟩
/-- the level of < = > -/
theorem cmp_q {t : Nat} {B : Nat → Nat} {C1 M1 : Mem} (hT : TaB t B C1 M1) {n op d : Nat} {o : Mem → Option (Unit × Mem)} (hsub : Sub t B C1 M1 op d (fX7_rd n 0 (nI 3) (nI op)) (fX12_sum o)) (hd : 1 ≤ d) : Sub t B C1 M1 op (d + 1) (fX7_rd (n + 1) 0 (nI 2) (nI op)) (fX12_compared o) := by
  have ht := hT.1
  intro p lC lM C M hp hlC hlM pc pm
  have eC : fX7_rd (n + 1) 0 (nI 2) (nI op) C = bE (fX7_rd n 0 (nI 3) (nI op) C) fun u2 M3 => fX7_readPart_l34_21 (nI 2) (fX7_rd n 0) (nI op) FU (nI 0) M3 := by
    show fX7_readPart (fX7_rd n 0) (fun x M => fX7_rd n 1 x 0 M) (nI 2) (nI op) C = _
    unfold fX7_readPart
    rw [if_pos (show nI 2 < (5 : Int32) by decide), nI_1, show (0 : Int32) = nI 0 from rfl]
    simp only [eq_true (show nI 2 = (2 : Int32) from rfl), if_true]
  obtain ⟨C2, M2, s1, s2, s3⟩ := hsub p lC lM C M hp hlC hlM pc pm
  obtain ⟨fz, hfz⟩ := FU_s 2 (by decide)
  rw [eC]
  unfold fX12_compared
  rw [s1, s2]
  simp only [bE_u]
  rw [hfz]
  rcases s3 with ⟨l, p', w', g1, g2, g3, pc', pm'⟩ | ⟨q, a, hq, ha, fc, fm⟩
  · have hM5 : ¬ 0 ≤ mgI M2 1235 0 0 := by rw [pm'.2.2.1]; exact m1_ng
    have hC4 : ¬ 0 ≤ mgI C2 704 0 0 := by rw [pc'.2.2.1]; exact m1_ng
    have hlk := look_q hT pm'.1.1 g3 pm'.2.1
    have hse := sees_q hT pc'.1.1 g3 pc'.2.1 (th := 6) (by omega)
    have hB : p' < t → B p' < 256 := fun z => (hT.2.2.2 p' z).1
    rw [hlk]
    simp only [bd_u]
    rw [if_neg hM5]
    have EC : fX7_readPart_l34_21 (nI 2) (fX7_rd n 0) (nI op) (fz + 2) (nI 0) C2 = fX7_readPart_b34_21 (nI 2) (fX7_rd n 0) (nI op) (fX7_readPart_l34_21 (nI 2) (fX7_rd n 0) (nI op) (fz + 1)) (nI 0) C2 := rfl
    cases hz : sz t B p' 6 with
    | false =>
      rw [hz] at hse
      have hn : ∀ s, s = 60 ∨ s = 61 ∨ s = 62 → ¬ lk t B p' = nI s := fun s hs e => by
        have h2 := (lk_s hB (by omega)).mp e
        have h3 : sz t B p' 6 = true := sz_t.mpr ⟨h2.1, sgB_m.mpr (by rw [h2.2]; rcases hs with rfl | rfl | rfl <;> decide)⟩
        rw [hz] at h3
        cases h3
      rw [if_neg (show ¬ lk t B p' = (60 : Int32) from hn 60 (by omega)), if_neg (show ¬ lk t B p' = (61 : Int32) from hn 61 (by omega)), if_neg (show ¬ lk t B p' = (62 : Int32) from hn 62 (by omega))]
      refine ⟨C2, M2, ?_, rfl, Or.inl ⟨l, p', w'.mono (Nat.le_succ _), g1, g2, g3, pc', pm'⟩⟩
      rw [EC]
      unfold fX7_readPart_b34_21
      rw [sgo 2 (by omega), if_neg hC4, hse]
      simp only [bd_u, if_true, ite_self, Bool.false_eq_true, if_false]
    | true =>
      rw [hz] at hse
      obtain ⟨hpt, hb⟩ := sz_t.mp hz
      obtain ⟨hbs, hb128⟩ := sg_in 2 (by omega) (B p') (hB hpt) hb
      have hb3 : B p' = 60 ∨ B p' = 61 ∨ B p' = 62 := by simpa [sgB, sgT] using hb
      have hlk2 : lk t B p' = nI (B p') := (lk_s hB hb128).mpr ⟨hpt, rfl⟩
      have eM : (if lk t B p' = (60 : Int32) then (nm ((mgI M2 1234 0 0) + (1 : Int32)) fun v6 => nm (msI M2 1234 0 0 v6) fun M7 => bE (fX12_sum o M7) fun u8 M9 => bE (fX12_lay (lk t B p') (0 : Int32) M9) fun u10 M11 => some ((), M11)) else (if lk t B p' = (61 : Int32) then (nm ((mgI M2 1234 0 0) + (1 : Int32)) fun v13 => nm (msI M2 1234 0 0 v13) fun M14 => bE (fX12_sum o M14) fun u15 M16 => bE (fX12_lay (lk t B p') (0 : Int32) M16) fun u17 M18 => some ((), M18)) else (if lk t B p' = (62 : Int32) then (nm ((mgI M2 1234 0 0) + (1 : Int32)) fun v20 => nm (msI M2 1234 0 0 v20) fun M21 => bE (fX12_sum o M21) fun u22 M23 => bE (fX12_lay (lk t B p') (0 : Int32) M23) fun u24 M25 => some ((), M25)) else (some ((), M2)))) : Option (Unit × Mem)) = bE (fX12_sum o (msI M2 1234 0 0 (nI (p' + 1)))) fun u8 M9 => bE (fX12_lay (nI (B p')) (0 : Int32) M9) fun u10 M11 => some ((), M11) := by
        rw [pm'.2.1, nI_1, hlk2]
        simp only [nm_u]
        rcases hb3 with e | e | e
        · rw [e, if_pos (show nI 60 = (60 : Int32) from rfl)]
        · rw [e, if_neg (show ¬ nI 61 = (60 : Int32) by decide), if_pos (show nI 61 = (61 : Int32) from rfl)]
        · rw [e, if_neg (show ¬ nI 62 = (60 : Int32) by decide), if_neg (show ¬ nI 62 = (61 : Int32) by decide), if_pos (show nI 62 = (62 : Int32) from rfl)]
      rw [eM]
      have eC2 : fX7_readPart_l34_21 (nI 2) (fX7_rd n 0) (nI op) (fz + 2) (nI 0) C2 = bE (fX7_rd n 0 (nI 3) (nI op) (msI C2 703 0 0 (nI (p' + 1)))) fun u16 M17 => bE (fX10_add 2 (-nI (B p')) M17) fun u18 M19 => fX7_readPart_l34_21 (nI 2) (fX7_rd n 0) (nI op) (fz + 1) (nI 1) M19 := by
        rw [EC]
        unfold fX7_readPart_b34_21
        rw [if_neg (show ¬ (1 : Int32) ≤ nI 0 by decide), if_neg hC4, sgo 2 (by omega), hse]
        simp only [bd_u, if_true]
        rw [if_neg one_ne, pc'.2.1, ix_n (show p' < 120 by omega) (by omega), nI_clamp (by omega), nI_1, nI_1, nI_1, ((pc'.1.1).on (K := [3900]) rfl 3900 (by decide)).1, (hT.2.2.2 p' hpt).2.1]
        simp only [nm_u]
      rw [eC2]
      obtain ⟨C3, M3, r1, r2, r3⟩ := hsub (p' + 1) (lC ++ l) (lM ++ l) _ _ hpt (by simp; omega) (by simp; omega) (adC_q pc' (p' + 1)) (adM_q pm' (p' + 1))
      rw [r1, r2]
      simp only [bE_u]
      have e1C : ∀ M, fX7_readPart_l34_21 (nI 2) (fX7_rd n 0) (nI op) (fz + 1) (nI 1) M = some ((), M) := fun M => by
        simp only [fX7_readPart_l34_21, fX7_readPart_b34_21]
        rw [if_pos (show (1 : Int32) ≤ nI 1 by decide)]
      simp only [e1C]
      rcases r3 with ⟨l', p2, w2, h1, h2, h3, pc2, pm2⟩ | ⟨q, a, hq, ha, fc, fm⟩
      · obtain ⟨C4, a1, a2⟩ := add_q pc2 (by simp; omega) (4, B p') (v := -nI (B p')) rfl
        obtain ⟨M4, b1, b2⟩ := lay_q pm2 (by simp; omega) (4, B p') (v := nI (B p')) (w := 0) rfl rfl (mNarS _ hb128)
        rw [a1, b1]
        simp only [bE_u]
        have e1 : ∀ z : List Tok, z ++ l ++ l' ++ [(4, B p')] = z ++ (l ++ (l' ++ [(4, B p')])) := fun z => by simp [List.append_assoc]
        rw [e1] at a2 b2
        exact ⟨C4, M4, rfl, rfl, Or.inl ⟨l ++ (l' ++ [(4, B p')]), p2, w'.bin w2 hd (Nat.le_succ _) (Nat.le_refl _) hbs, by simp; omega, by omega, h3, a2, b2⟩⟩
      · have hlm : (lM ++ l).length = lM.length + l.length := List.length_append
        rw [hlm] at ha
        obtain ⟨C4, a1, a2⟩ := addF_q fc (-nI (B p'))
        obtain ⟨M4, b1, b2⟩ := layF_q fm (by omega) (nI (B p')) 0
        rw [a1, b1]
        simp only [bE_u]
        exact ⟨C4, M4, rfl, rfl, Or.inr ⟨q, a + 1, hq, by omega, a2, b2⟩⟩
  · obtain ⟨pf, hpf, hpf2⟩ := fm.2.2.2
    rw [look_q hT fm.1.1 hpf hpf2]
    simp only [bd_u]
    rw [if_pos (fm.ge hq ht)]
    exact ⟨C2, M2, l21_F hT fc hq (by omega) _ _ _ _, rfl, Or.inr ⟨q, a, hq, ha, fc, fm⟩⟩
